/**
 * What is left over: none, up to three words, which stay, and four or more,
 * which become a free block; and wishes that are met just so, or missed by one.
 */
public final class LeftOverTest {
    private static final int NONE = Probe.NONE;

    private static void alloc() {
        Report.says("ALLOC of n: FOUND leaves its LIST, and is USED; if its BODY has 4 WORDS more than the WISH "
            + "(n, 3 at least), or more, the WORDS behind are a FREE BLOCK then, which comes to its LIST.");
        for (int left = 0; left <= 12; left++) {
            Probe p = Probe.of(16 + left).alloc(15, 1).links(left < 4 ? 1 : 2).sound();
            if (left < 4) {
                p.blocks(15 + left).size(1, 15 + left).bits(9, 0);
            } else {
                p.blocks(15, 1 - left).list(left == 12 ? 11 : left - 1, 17);
                p.word(0, 60).word(16, 4L * left - 3).word(17, 0).word(18, 0).word(15 + left, left - 1);
            }
        }

        Report.says("The CLASS of a WISH for n WORDS (3, if n is less)");
        for (int n = 1; n <= 3; n++) {
            Probe.cut(-3, 11).alloc(n, 1).links(1).blocks(3, 11);
            Probe.cut(-6, 8).alloc(n, 1).links(1).blocks(6, 8);
            Probe.cut(-7, 7).alloc(n, 1).links(2).blocks(3, -3, 7).words(4, 13, 0, 0, 3, 30);
        }
        Probe.cut(-7, 7).alloc(4, 1).links(1).blocks(7, 7).word(8, 28);
        Probe.cut(-8, 6).alloc(4, 1).links(2).blocks(4, -3, 6);
    }

    private static void bodyOfTheWish() {
        Report.says("the class of a wish is rounded up, so that the first block of it, "
            + "or of the next one that has some, is enough");
        // 16 and 17 are one CLASS: 17 is a WISH for the next
        Probe.of(17).alloc(16, 1).blocks(16);
        Probe.of(18).alloc(17, NONE).count(3, 1).blocks(-17).alloc(16, 1).blocks(17);
        Probe.of(19).alloc(17, 1).blocks(18);
        // below 16 each CLASS has one n
        Probe.of(16).alloc(15, 1).blocks(15);
        Probe.of(16).alloc(16, NONE).blocks(-15);
        Probe.cut(-7, 7).alloc(7, 1).blocks(7, 7);
        Probe.cut(-7, 7).alloc(8, NONE).blocks(-7, 7);
        Probe.cut(-3, 11).alloc(3, 1).blocks(3, 11);
        Probe.cut(-3, 11).alloc(4, NONE).blocks(-3, 11);
        Probe.cut(-8, 6).alloc(8, 1).blocks(8, 6);
        Probe.cut(-8, 6).alloc(9, NONE).blocks(-8, 6);
    }

    /** A free block at place 13, of which 16 is the last multiple of 16 that is too near: 19 words lie ahead. */
    private static Probe farFree(int body) {
        return Probe.cut(11, -body);
    }

    private static void aligned() {
        Report.says("with p its PLACE, q is the least multiple of a, p or at least p + 4");
        // p is 12: q is p + 4, and the least BLOCK lies ahead
        Probe.cut(10, -40).aligned(5, 16, 16).links(3).blocks(10, -3, 5, -30).words(11, 13, 0, 0, 3, 22).sound();
        Probe.cut(10, -40).aligned(5, 8, 16).links(3).blocks(10, -3, 5, -30);
        // p is 12: a multiple of 4 and of 2 itself
        Probe.cut(10, -40).aligned(5, 4, 12).links(2).blocks(10, 5, -34).word(11, 20).sound();
        Probe.cut(10, -40).aligned(5, 2, 12).links(2).blocks(10, 5, -34);
        // p is 13, 14, 15: 16 is too near
        Probe.cut(11, -60).aligned(5, 16, 32).links(3).blocks(11, -18, 5, -35);
        Probe.cut(12, -60).aligned(5, 16, 32).links(3).blocks(12, -17, 5, -36);
        Probe.cut(13, -60).aligned(5, 16, 32).links(3).blocks(13, -16, 5, -37);
        // p is 16
        Probe.cut(14, -60).aligned(5, 16, 16).links(2).blocks(14, 5, -54);
        // p is 11: five WORDS ahead
        Probe.cut(9, -60).aligned(5, 16, 16).links(3).blocks(9, -4, 5, -49);
        // p is 13, a is 2: 14 and 16 are too near, 18 is not
        Probe.cut(11, -60).aligned(5, 2, 18).links(3).blocks(11, -4, 5, -49);
        Probe.cut(11, -60).aligned(5, 4, 20).links(3).blocks(11, -6, 5, -47);
        // at the first WORD
        Probe.of(100).aligned(5, 64, 64).links(3).blocks(-62, 5, -30).sound();
        Probe.of(100).aligned(5, 4, 8).links(3).blocks(-6, 5, -86);

        Report.says("FOUND for n (3 at least) and a + 3");
        for (int n = 1; n <= 3; n++) {
            farFree(22).aligned(n, 16, 32).blocks(11, -18, 3);
            farFree(21).aligned(n, 16, NONE).count(3, 1).blocks(11, -21);
        }
        // though the BLOCK is at such a PLACE already, and would do
        Probe.cut(14, -24).aligned(5, 16, 16).blocks(14, 5, -18);
        Probe.cut(14, -24).aligned(6, 16, NONE).count(3, 1).blocks(14, -24);
        Probe.cut(3, -7, 3, -11).aligned(3, 2, 22).blocks(3, -7, 3, -4, 6).list(7, 5).list(4, 17);

        Report.says("the WORDS ahead of the HEADER of q (the old HEADER, and q - p - 1) are a FREE BLOCK then, "
            + "which comes first to its LIST; the rest as by ALLOC of n.");
        for (int left = 0; left <= 7; left++) {
            Probe p = farFree(22 + left).aligned(3, 16, 32);
            if (left < 4) {
                p.links(2).blocks(11, -18, 3 + left).words(12, 73, 0, 0).words(30, 18, 14 + 4L * left).sound();
            } else {
                p.links(3).blocks(11, -18, 3, 1 - left).word(31, 14).word(35, 4L * left - 3).sound();
            }
        }
        // both of one CLASS: what is ahead came first, so what is behind is the LIST's first
        Probe.of(18).aligned(3, 8, 8).links(3).blocks(-6, 3, -6).list(6, 12, 1).words(0, 25, 0, 12)
            .words(11, 25, 1, 0).sound();
    }

    private static void resizeDown() {
        Report.says("n not above m: if 4 or more are left over, these are cut off as by ALLOC");
        for (int n = 3; n <= 12; n++) {
            int left = 12 - n;
            Probe behindUsed = Probe.cut(3, 12, 4).resize(5, n, 5).links(left < 4 ? 0 : 1).sound();
            Probe atTheEnd = Probe.cut(3, 12).resize(5, n, 5).links(left < 4 ? 0 : 1).sound();
            if (left < 4) {
                behindUsed.blocks(3, 12, 4).word(17, 16);
                atTheEnd.blocks(3, 12);
            } else {
                behindUsed.blocks(3, n, 1 - left, 4).word(5 + n, 4L * left - 3).word(16, left - 1).word(17, 18);
                atTheEnd.blocks(3, n, 1 - left).word(5 + n, 4L * left - 3).word(16, left - 1);
            }
        }

        Report.says("put together with a FREE BLOCK behind (which leaves its LIST first)");
        for (int n = 3; n <= 12; n++) {
            int left = 12 - n;
            Probe p = Probe.cut(3, 12, -5, 4).resize(5, n, 5).links(left < 4 ? 0 : 2).sound();
            if (left < 4) {
                p.blocks(3, 12, -5, 4).list(5, 18);
            } else {
                p.blocks(3, n, -5 - left, 4).list(5).word(5 + n, 4L * (left + 5) + 1).word(22, left + 5);
                p.word(17, 21).word(23, 18);
            }
        }
        // of one CLASS with what it becomes: its links tell that it left first
        Probe p = Probe.cut(12, -80, 4).resize(1, 8, 1).links(2).blocks(8, -84, 4).list(34, 10);
        p.words(9, 337, 0, 0, 0, 321, 0, 0).word(93, 84).sound();

        Report.says("RESIZED to n (3 at least), m its WORDS");
        for (int n = 1; n <= 3; n++) {
            Probe.cut(3, 11).resize(1, n, 1).links(0).blocks(3, 11);
            Probe.cut(6, 8).resize(1, n, 1).links(0).blocks(6, 8);
            Probe.cut(7, 7).resize(1, n, 1).links(1).blocks(3, -3, 7);
            Probe.cut(6, -4, 8).resize(1, n, 1).links(0).blocks(6, -4, 8);
            Probe.cut(7, -4, 8).resize(1, n, 1).links(2).blocks(3, -8, 8);
        }
    }

    private static void resizeUp() {
        Report.says("if the BLOCK behind is FREE and m, 1 and its WORDS are n or more: that leaves its LIST, "
            + "and is put to it; what is left over is cut off likewise.");
        // 5 and 1 and 9 are 15
        for (int n = 6; n <= 15; n++) {
            int left = 15 - n;
            Probe p = Probe.cut(5, -9, 4).put(1, 0, 71, 1).put(1, 4, 72, 1).resize(1, n, 1);
            p.links(left < 4 ? 1 : 2).word(1, 71).word(5, 72).word(6, 37).sound();
            if (left < 4) {
                p.blocks(15, 4).word(16, 16).bits(9, 0);
            } else {
                p.blocks(n, 1 - left, 4).word(1 + n, 4L * left - 3).word(15, left - 1).word(16, 18);
            }
        }
        Probe.cut(5, -9, 4).resize(1, 16, NONE).count(3, 1).links(1).blocks(5, -9, 4);
        // the FREE BLOCK behind is the least one, and is the last one
        Probe.cut(11, -3).resize(1, 12, 1).links(1).blocks(15).sound();
        Probe.cut(11, -3).resize(1, 15, 1).links(1).blocks(15).sound();
        Probe.cut(11, -3).resize(1, 16, NONE).count(3, 1).blocks(11, -3);
        Probe.cut(11, -4).resize(1, 12, 1).links(2).blocks(12, -3).sound();
        Probe.cut(11, -4).resize(1, 13, 1).links(1).blocks(16).sound();
        // m and its WORDS alone are not enough, with 1 they are
        Probe.cut(7, -8).resize(1, 16, 1).links(1).blocks(16);
        Probe.cut(7, -8).resize(1, 17, NONE).blocks(7, -8);
        // a FREE BLOCK ahead is not asked, one behind a USED one neither
        Probe.cut(-9, 5, 4, -9, 3).resize(11, 9, 22).links(3).blocks(-15, 4, 9, 3);
        Probe.cut(-8, 5, 4, -8, 3).resize(10, 9, NONE).count(3, 1).blocks(-8, 5, 4, -8, 3);
    }

    private static void resizeAway() {
        Report.says("Else: ALLOC of n; the m WORDS are the first of the new one; the old one is FREED; "
            + "if nothing is FOUND, nothing is changed.");
        for (int left = 0; left <= 6; left++) {
            Probe p = Probe.cut(3, 4, -9 - left).put(1, 0, 71, 1).put(1, 1, 72, 1).put(1, 2, 73, 1);
            p.resize(1, 9, 10).words(10, 71, 72, 73, 0).links(left < 4 ? 2 : 3).sound();
            if (left < 4) {
                p.blocks(-3, 4, 9 + left);
            } else {
                p.blocks(-3, 4, 9, 1 - left);
            }
            p.words(0, 13, left == 4 ? 20 : 0, 0, 3, 18);
        }
        Probe.cut(3, 4, -8).resize(1, 9, NONE).count(3, 1).blocks(3, 4, -8);
        // into the BLOCK ahead: its rest, and what is freed, become one
        Probe.cut(-9, 3, 4).put(11, 2, 73, 1).resize(11, 4, 1).links(4).blocks(4, -8, 4).word(3, 73).sound();
        // the rest has three WORDS: it is no BLOCK, so what is freed stays alone
        Probe.cut(-7, 3, 4).resize(9, 4, 1).links(2).blocks(7, -3, 4).sound();
        // into the BLOCK ahead, just so
        Probe.cut(-4, 3, 6).resize(6, 4, 1).links(2).blocks(4, -3, 6).sound();
        // FREED with one behind that was not enough, and with the one ahead that was not FOUND
        Probe.cut(-3, 4, -3, 4, -20).resize(5, 9, 19).links(5).blocks(-12, 4, 9, -10).sound();
    }

    private static void words() {
        Report.says("(WORDS of a BODY that becomes USED stay as they are.)");
        Probe p = Probe.cut(5, 6, 5, 5).put(7, 0, 61, 1).put(7, 1, 62, 1).put(7, 2, 63, 1).put(7, 4, 64, 1);
        p.put(7, 5, 65, 1).free(7, 6).free(20, 5).words(6, 25, 0, 0, 63, 0, 64, 6, 22);
        p.alloc(6, 7).words(6, 24, 0, 0, 63, 0, 64, 6, 20);
        // a link to the next one stays, too
        p = Probe.cut(-4, 3, -4, 3).alloc(4, 10).words(9, 16, 1, 0, 0, 4, 12);
        // in a BLOCK of three the last WORD is the one behind the links
        p = Probe.cut(4, 3, 6).put(6, 0, 61, 1).put(6, 1, 62, 1).put(6, 2, 63, 1).free(6, 3).words(5, 13, 0, 0, 3, 26);
        p.alloc(1, 6).words(5, 12, 0, 0, 3, 24).sound();
        // grown where it is: what was the BLOCK behind stays
        Probe.cut(4, -5, 4).resize(1, 10, 1).words(0, 40, 0, 0, 0, 0, 21, 0, 0, 0, 0, 5, 16);
    }

    public static void main(String[] args) {
        alloc();
        bodyOfTheWish();
        aligned();
        resizeDown();
        resizeUp();
        resizeAway();
        words();
        Report.end();
    }
}
