import java.util.ArrayList;
import java.util.List;

/** Free blocks ahead, behind and on both sides, at the first word and at the end. */
public final class NeighbourTest {
    private static final int NONE = Probe.NONE, BAD = Probe.BAD;
    private static final int MIDDLE = 15;

    private static Probe cut(List<Integer> bodies) {
        int[] row = new int[bodies.size()];
        for (int i = 0; i < row.length; i++) {
            row[i] = bodies.get(i);
        }
        return Probe.cut(row);
    }

    private static void dueBlocks(Probe p, List<Integer> bodies) {
        int[] row = new int[bodies.size()];
        for (int i = 0; i < row.length; i++) {
            row[i] = bodies.get(i);
        }
        p.blocks(row);
    }

    /** Frees a block of 15 words between two others; 0: there is none, below 0: it is free. */
    private static void freedBetween(int first, int ahead, int behind, int last) {
        List<Integer> before = new ArrayList<>();
        List<Integer> after = new ArrayList<>();
        int whole = MIDDLE;
        int start = 0;
        for (int body : new int[] {first, ahead}) {
            if (body != 0) {
                before.add(body);
            }
            if (body > 0) {
                after.add(body);
                start += body + 1;
            }
        }
        whole += ahead < 0 ? 1 - ahead : 0;
        whole += behind < 0 ? 1 - behind : 0;
        int place = start + 1 + (ahead < 0 ? 1 - ahead : 0);
        before.add(MIDDLE);
        after.add(-whole);
        for (int body : new int[] {behind, last}) {
            if (body != 0) {
                before.add(body);
            }
            if (body > 0) {
                after.add(body);
            }
        }
        int behindWord = start + 1 + whole;
        int behindBody = behind > 0 ? behind : behind < 0 ? last : 0;
        Probe p = cut(before);
        p.size(place, MIDDLE).free(place, whole).links(1 + (ahead < 0 ? 1 : 0) + (behind < 0 ? 1 : 0));
        dueBlocks(p, after);
        p.word(start, 4L * whole + 1).word(start + 1, 0).word(start + 2, 0).word(start + whole, whole);
        p.word(behindWord, behindBody == 0 ? 0 : 4L * behindBody + 2);
        p.found(whole < 16 ? whole : whole / 4 * 4, start + 1).count(7, 1).count(5, whole).count(8, whole);
        p.size(place, BAD).free(place, BAD).sound();
    }

    private static void freed() {
        Report.says("with the BLOCK behind it, if that is FREE, and that ahead, if that is (each leaves its LIST, "
            + "that behind first), it is one FREE BLOCK, which comes to its LIST.");
        freedBetween(0, 0, 0, 0);
        for (int behind : new int[] {3, 9}) {
            freedBetween(0, 0, behind, 0);
            freedBetween(0, 0, -behind, 0);
            freedBetween(0, 0, -behind, 4);
            freedBetween(0, behind, 0, 0);
            freedBetween(0, -behind, 0, 0);
            freedBetween(4, -behind, 0, 0);
            for (int ahead : new int[] {3, 7}) {
                freedBetween(0, ahead, behind, 0);
                freedBetween(0, ahead, -behind, 0);
                freedBetween(0, ahead, -behind, 5);
                freedBetween(0, -ahead, behind, 0);
                freedBetween(4, -ahead, behind, 0);
                freedBetween(0, -ahead, -behind, 0);
                freedBetween(4, -ahead, -behind, 0);
                freedBetween(0, -ahead, -behind, 5);
                freedBetween(4, -ahead, -behind, 5);
            }
        }

        Report.says("each leaves its LIST, that behind first");
        // in one LIST, the one behind came last: it still tells the one ahead of it as next
        Probe p = Probe.cut(-5, 4, -5, 6).list(5, 12, 1).free(7, 16).links(3);
        p.words(0, 65, 0, 0, 0, 0, 5, 18, 0, 0, 0, 0, 21, 1, 0, 0, 0, 16, 26).list(5).sound();
        // the one behind came first: it still tells the other as the one ahead of it
        p = Probe.cut(5, 4, 5, 6).free(12, 5).free(1, 5).list(5, 1, 12).free(7, 16).links(3);
        p.words(0, 65, 0, 0, 0, 0, 5, 18, 0, 0, 0, 0, 21, 0, 1, 0, 0, 16, 26).list(5).sound();

        Report.says("FREED: how many WORDS the FREE BLOCK has that it is in then. BAD; SPOILT.");
        p = Probe.cut(3, 3, 3, 3).free(5, 3).free(13, 3).free(9, 11).free(1, 15).links(2).blocks(-15);
        p.free(1, BAD).free(5, BAD).free(9, BAD).free(13, BAD).links(2).blocks(-15);
        Probe.of(2048).alloc(3, 1).resize(1, 2047, 1).free(1, 2047).blocks(-2047).words(0, 8189, 0, 0).word(2047, 2047);
    }

    private static void headers() {
        Report.says("HEADER: 4 n, and 2, if the BLOCK ahead is FREE (the first one has none), "
            + "and 1, if it is FREE itself.");
        // all of the four, at the first WORD, inside and at the end
        Probe.cut(3, 3, 7).word(0, 12).word(4, 12).word(8, 28);
        Probe.cut(-3, 3, -7).word(0, 13).word(4, 14).word(8, 29);
        Probe.cut(3, -3, 7).word(0, 12).word(4, 13).word(8, 30);
        // of the last BLOCK there is none behind to be told
        Probe.cut(3, 11).free(5, 11).word(4, 45).word(15, 11).word(16, 0).alloc(11, 5).word(4, 44).word(16, 0);
        // told anew when it is given out, and when it is put to the one ahead of it
        Probe.cut(3, -3, 7).alloc(3, 5).word(8, 28).free(5, 3).word(8, 30).resize(1, 7, 1).word(8, 28).blocks(7, 7);
        Probe.cut(-3, 3, 7).alloc(3, 1).word(4, 12).free(1, 3).word(4, 14);
        // cut off: the one behind is told, and the FREE one ahead stays told
        Probe.cut(-4, 8, 6).resize(6, 4, 6).words(5, 18, 0, 0, 0, 0, 13, 0, 0, 3, 26).blocks(-4, 4, -3, 6).sound();
        Probe.cut(-4, 8, -3, 5).resize(6, 12, 6).word(5, 50).word(18, 20).blocks(-4, 12, 5).sound();
        Probe.cut(-4, 8, -9, 5).resize(6, 12, 6).word(5, 50).word(18, 21).word(24, 22).blocks(-4, 12, -5, 5).sound();

        Report.says("In the BODY of a FREE one: WORD 0 is the PLACE of the next one in its LIST (0: none), WORD 1 that "
            + "of the one ahead in it (0: it is the first), the last WORD n.");
        Probe p = Probe.cut(-3, 3, -3, 4, -3).list(3, 9, 1, 18).words(17, 13, 0, 1, 3);
        p.free(5, 11).list(3, 18).list(11, 1).words(17, 13, 0, 0, 3).sound();
        p = Probe.cut(-3, 3, -3, 4, -3, 5).list(3, 18, 9, 1);
        p.words(0, 13, 0, 9, 3, 14).words(8, 13, 1, 18, 3, 18).words(17, 13, 9, 0, 3, 22);
        p.alloc(3, 18).words(0, 13, 0, 9, 3).words(8, 13, 1, 0, 3).words(17, 12, 9, 0, 3, 20).list(3, 9, 1);
        p.free(18, 3).free(13, 12).list(3, 1).words(0, 13, 0, 0, 3).list(12, 9).sound();
    }

    private static void grown() {
        Report.says("they are a BLOCK at the end (its HEADER the first of them), which is FREED.");
        // behind a USED one
        Probe.of(16).alloc(15, 1).grow(4, 20).links(1).blocks(15, -3).words(15, 15, 13, 0, 0, 3, 0).list(3, 17).sound();
        Probe.of(16).alloc(15, 1).grow(5, 21).links(1).blocks(15, -4).words(16, 17, 0, 0, 0, 4, 0).list(4, 17).sound();
        // behind a FREE one, the least, and one that is the whole POOL
        Probe.cut(11, -3).grow(4, 20).links(2).blocks(11, -7).words(12, 29, 0, 0, 3, 14, 0, 0, 7, 0).list(3)
            .list(7, 13).sound();
        Probe.of(16).grow(4, 20).links(2).blocks(-19).words(0, 77, 0, 0).words(15, 15, 14, 0, 0, 19, 0).list(17, 1)
            .list(15).sound();
        Probe.of(64).grow(1024, 1088).links(2).blocks(-1087).grow(960, 2048).links(2).blocks(-2047).list(71, 1).sound();
        // the last one of its LIST, and the first
        Probe.cut(-5, 3, -5).list(5, 1, 11).grow(4, 20).links(2).blocks(-5, 3, -9).list(5, 1).list(9, 11).sound();
        Probe.cut(-5, 3, 5).free(11, 5).list(5, 11, 1).grow(4, 20).links(2).blocks(-5, 3, -9).list(5, 1).list(9, 11)
            .sound();
        // what an earlier POOL had there is gone
        Probe.of(64).spoil(20, 7, 1).open(16, 1).grow(8, 24).words(15, 15, 30, 0, 0, 0, 0, 0, 0, 23).sound();
        // a BLOCK in it is taken as any
        Probe.of(16).alloc(15, 1).grow(16, 32).alloc(15, 17).blocks(15, 15).free(1, 15).free(17, 31).blocks(-31)
            .sound();

        Report.says("GROWN: how many WORDS THE POOL has.");
        Probe p = Probe.of(16).alloc(15, 1);
        for (int words = 20; words <= 60; words += 4) {
            p.grow(4, words).count(0, words).word(words - 1, words - 17).word(words, 0).spoil(words, 1, BAD);
        }
        p.blocks(15, -43).sound();
    }

    private static void resized() {
        Report.says("RESIZED to n (3 at least), m its WORDS: n not above m");
        // a FREE BLOCK ahead is never put to it
        Probe.cut(-5, 8, 5).resize(7, 8, 7).links(0).blocks(-5, 8, 5);
        Probe.cut(-5, 8, 5).resize(7, 4, 7).links(1).blocks(-5, 4, -3, 5).sound();
        Probe.cut(-5, 8, -5).resize(7, 4, 7).links(2).blocks(-5, 4, -9).sound();
        Probe.cut(-5, 8, -5).resize(7, 5, 7).links(0).blocks(-5, 8, -5).sound();
        Probe.cut(-5, 8, -5).resize(7, 14, 7).links(1).blocks(-5, 14).sound();
        Probe.cut(-5, 8, -5).resize(7, 10, 7).links(2).blocks(-5, 10, -3).sound();
        Probe.cut(-5, 8, -5).resize(7, 15, NONE).links(1).blocks(-5, 8, -5).sound();
        // at the first WORD, and the whole of THE POOL
        Probe.of(16).alloc(15, 1).resize(1, 15, 1).links(0).blocks(15).resize(1, 12, 1).links(0).blocks(15)
            .resize(1, 11, 1).links(1).blocks(11, -3).resize(1, 15, 1).links(1).blocks(15).resize(1, 16, NONE).links(1)
            .sound();

        Report.says("the old one is FREED");
        // nothing FREE beside it, one behind, one ahead, both
        Probe.cut(4, 5, 6, -30).resize(6, 9, 19).links(3).blocks(4, -5, 6, 9, -20).sound();
        Probe.cut(4, 5, -3, 6, -30).resize(6, 10, 23).links(4).blocks(4, -9, 6, 10, -19).sound();
        Probe.cut(-4, 5, 6, -30).resize(6, 9, 19).links(4).blocks(-10, 6, 9, -20).sound();
        Probe.cut(-4, 5, -3, 6, -30).resize(6, 10, 23).links(5).blocks(-14, 6, 10, -19).sound();
        // it is the last one
        Probe.cut(-20, 4, 5).resize(27, 9, 1).links(3).blocks(9, -10, 4, -5).sound();
        Probe.cut(-20, 4, 5, -3).resize(27, 10, 1).links(4).blocks(10, -9, 4, -9).sound();
    }

    public static void main(String[] args) {
        freed();
        headers();
        grown();
        resized();
        Report.end();
    }
}
