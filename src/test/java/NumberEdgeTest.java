/**
 * The least and the greatest number that each call takes, the ones just beyond,
 * and the least and the greatest int and long.
 */
public final class NumberEdgeTest {
    private static final int NONE = Probe.NONE, BAD = Probe.BAD, FULL = Probe.FULL;
    private static final int LEAST = Probe.LEAST, MOST = Probe.MOST;
    private static final int[] NO_WISHES = {LEAST, LEAST + 1, -2048, -1, 0, 2049, 2050, MOST - 1, MOST};

    private static void newObject() {
        Report.says("A POOL of 64 WORDS, as by open().");
        Report.due("NONE", TwoLevels.NONE, NONE);
        Report.due("BAD", TwoLevels.BAD, BAD);
        Report.due("SPOILT", TwoLevels.SPOILT, Probe.SPOILT);
        Report.due("FULL", TwoLevels.FULL, FULL);
        sayOnePool(new Probe(), 64);
        sayOnePool(Probe.of(64), 64);
    }

    /** Just opened: nothing was given out, refused, checked or spoilt. */
    private static void sayOnePool(Probe p, int words) {
        p.blocks(1 - words).word(0, 4L * words - 3).word(words - 1, words - 1).word(words, 0).word(-1, 0);
        for (int w = 1; w < words - 1 && w < 300; w++) {
            p.word(w, 0);
        }
        p.count(0, words).links(0).count(2, 0).count(3, 0);
        p.count(4, 0).count(5, words - 1).count(6, 0).count(7, 1).count(8, words - 1).where(NONE);
        p.sound();
    }

    private static void open() {
        Report.says("THE POOL has WORDS (longs), 16 .. 2048 of them.");
        for (int words : new int[] {16, 17, 2047, 2048}) {
            sayOnePool(Probe.of(words), words);
        }
        for (int words : new int[] {LEAST, -2048, -16, -1, 0, 1, 3, 14, 15, 2049, 4096, MOST}) {
            new Probe().open(words, BAD).blocks(-63);
            Probe.of(16).open(words, BAD).blocks(-15);
            Probe.of(2048).open(words, BAD).blocks(-2047);
        }

        Report.says("A POOL of so many WORDS (16 .. 2048), all 0 but for one FREE BLOCK: 1.");
        Probe p = Probe.of(16);
        for (int w = 0; w < 16; w++) {
            p.spoil(w, -1, 1);
        }
        sayOnePool(p.open(16, 1), 16);
        p = Probe.of(2048).spoil(2047, -1, 1).spoil(2046, -1, 1).spoil(16, -1, 1).open(16, 1).open(2048, 1);
        p.word(2047, 2047).word(2046, 0).word(16, 0).word(15, 0);
        p = Probe.cut(3, -3, 3, -5).open(2048, 1).word(4, 0).word(7, 0).word(8, 0).word(15, 0).blocks(-2047);
        p.list(71, 1).list(3).list(5).bits(0, 0).bits(9, 256);
    }

    private static void alloc() {
        Report.says("ALLOC of n (1 .. 2048): the PLACE.");
        for (int n : NO_WISHES) {
            Probe.of(2048).alloc(n, BAD).found(n, BAD).count(3, 0).blocks(-2047);
        }
        int[] small = {1, 2, 3, 4};
        for (int n : small) {
            int body = n < 3 ? 3 : n;
            Probe.of(64).found(n, 1).alloc(n, 1).blocks(body, body - 62).size(1, body);
        }
        // 1920 is the greatest WISH whose CLASS is not above that of the greatest BLOCK
        Probe.of(2048).found(1920, 1).alloc(1920, 1).blocks(1920, -126);
        for (int n : new int[] {1921, 2046, 2047, 2048}) {
            Probe.of(2048).found(n, NONE).count(3, 0).alloc(n, NONE).count(3, 1).blocks(-2047);
        }
    }

    private static void aligned() {
        Report.says("BAD: a is no 2, 4, 8, 16, 32, 64");
        for (int a = -130; a <= 130; a++) {
            boolean taken = a == 2 || a == 4 || a == 8 || a == 16 || a == 32 || a == 64;
            int place = a == 2 ? 6 : a == 4 ? 8 : a;
            Probe.of(200).aligned(5, a, taken ? place : BAD);
        }
        for (int a : new int[] {LEAST, LEAST + 2, LEAST + 64, 1 << 30, 256, 1024, MOST - 1, MOST}) {
            Probe.of(2048).aligned(5, a, BAD).blocks(-2047);
        }

        Report.says("ALIGNED ALLOC: the PLACE, a multiple of a.");
        for (int n : NO_WISHES) {
            Probe.of(2048).aligned(n, 2, BAD).aligned(n, 64, BAD).count(3, 0).blocks(-2047);
        }
        for (int n : new int[] {1, 2, 3, 4}) {
            int body = n < 3 ? 3 : n;
            Probe.of(64).aligned(n, 2, 6).blocks(-4, body, body - 57);
        }
        // FOUND is for n, a and 3: 1920 is the greatest again
        Probe.of(2048).aligned(1915, 2, 6).blocks(-4, 1915, -126);
        Probe.of(2048).aligned(1916, 2, NONE).count(3, 1).blocks(-2047);
        Probe.of(2048).aligned(1853, 64, 64).blocks(-62, 1853, -130);
        Probe.of(2048).aligned(1854, 64, NONE).count(3, 1).blocks(-2047);
        Probe.of(2048).aligned(2048, 2, NONE).aligned(2048, 64, NONE).count(3, 2).blocks(-2047);
    }

    private static void resize() {
        Report.says("RESIZED (n 1 .. 2048): the PLACE that it has then.");
        for (int n : NO_WISHES) {
            Probe.of(2048).alloc(9, 1).resize(1, n, BAD).links(2).count(3, 0).blocks(9, -2037);
        }
        for (int n : new int[] {1, 2, 3, 4}) {
            int body = n < 3 ? 3 : n;
            Probe.of(64).alloc(9, 1).resize(1, n, 1).blocks(body, body - 62);
        }
        // where it is, it can become greater than any WISH that is FOUND
        Probe.of(2048).alloc(3, 1).resize(1, 2047, 1).blocks(2047).resize(1, 2048, NONE).count(3, 1).blocks(2047);
        Probe.of(2048).alloc(3, 1).resize(1, 2048, NONE).count(3, 1).blocks(3, -2043);
    }

    private static void grow() {
        Report.says("GROWN by n WORDS (4 .. 1024)");
        for (int n : new int[] {LEAST, -1024, -4, -1, 0, 1, 2, 3, 1025, 2048, MOST - 16, MOST}) {
            Probe.of(16).grow(n, BAD).blocks(-15);
            Probe.of(2048).grow(n, BAD).blocks(-2047);
        }
        for (int n : new int[] {4, 5, 1023, 1024}) {
            Probe.of(16).grow(n, 16 + n).blocks(-15 - n).word(15 + n, 15 + n).word(16 + n, 0).sound();
        }

        Report.says("FULL: above 2048.");
        Probe.of(1024).grow(1024, 2048).blocks(-2047).grow(4, FULL).blocks(-2047);
        Probe.of(1025).grow(1024, FULL).blocks(-1024).grow(1023, 2048).blocks(-2047);
        Probe.of(2044).grow(5, FULL).grow(4, 2048).grow(4, FULL).grow(1024, FULL).blocks(-2047);
        Probe.of(2045).grow(4, FULL).blocks(-2044);
        Probe.of(2047).grow(4, FULL).blocks(-2046);
        Probe.of(2048).grow(4, FULL).grow(1024, FULL).grow(3, BAD).grow(1025, BAD).blocks(-2047).links(0);
    }

    /** Four blocks of three words in sixteen: every place from before the first word to behind the end. */
    private static void places() {
        Report.says("a BLOCK's PLACE is the number of its BODY's first WORD");
        int[] some = {LEAST, LEAST + 1, LEAST + 13, -13, MOST, MOST - 1, 1 << 16, 1 << 30, (1 << 16) + 13};
        for (int place : some) {
            Probe.cut(3, 3, 3, 3).size(place, BAD).put(place, 0, 1, BAD).resize(place, 3, BAD).free(place, BAD);
        }
        for (int place = -6; place <= 22; place++) {
            boolean used = place >= 1 && place <= 13 && place % 4 == 1;
            Probe p = Probe.cut(3, 3, 3, 3).size(place, used ? 3 : BAD).put(place, 2, 7, used ? 1 : BAD);
            p.resize(place, 3, used ? place : BAD).free(place, used ? 3 : BAD).free(place, BAD).size(place, BAD);
            p.put(place, 0, 1, BAD).resize(place, 3, BAD);
        }
        // the greatest PLACE that there is
        Probe.of(2048).alloc(3, 1).resize(1, 2043, 1).alloc(3, 2045).size(2045, 3).put(2045, 2, 9, 1).word(2047, 9)
            .size(2046, BAD).size(2047, BAD).size(2048, BAD).free(2045, 3).word(2047, 3);
    }

    private static void size() {
        Report.says("How many WORDS a USED BLOCK has. BAD; SPOILT.");
        Probe.cut(3, -3, 7).size(1, 3).size(5, BAD).size(9, 7).free(9, 11).size(9, BAD).size(5, BAD).size(1, 3);
        Probe.of(16).size(1, BAD).alloc(15, 1).size(1, 15).resize(1, 12, 1).size(1, 15).resize(1, 11, 1).size(1, 11)
            .size(13, BAD).free(1, 15).size(1, BAD);
        Probe.of(2048).alloc(3, 1).resize(1, 2047, 1).size(1, 2047).size(2, BAD).size(2047, BAD);
        // a HEADER that a BODY holds is none
        Probe.cut(3, 3, -7).free(5, 11).alloc(11, 5).word(8, 29).size(9, BAD).put(5, 3, 12, 1).size(9, BAD)
            .free(9, BAD);
    }

    private static void put() {
        Report.says("WORD i of a USED BLOCK's BODY becomes v: 1.");
        for (int i : new int[] {LEAST, LEAST + 7, -8, -7, -1, 3, 4, 63, 64, MOST - 6, MOST}) {
            Probe.cut(5, 3, -53).put(7, i, 9, BAD).words(0, 20, 0, 0, 0, 0, 0, 12, 0, 0, 0, 213);
        }
        Probe p = Probe.cut(5, 3, -53);
        p.put(7, 0, Long.MIN_VALUE, 1).put(7, 1, Long.MAX_VALUE, 1).put(7, 2, -1, 1);
        p.words(5, 0, 12, Long.MIN_VALUE, Long.MAX_VALUE, -1, 213).sound();
        // the first and the last WORD of a POOL that one BLOCK has whole
        p = Probe.of(16).alloc(15, 1).put(1, 14, 5, 1).put(1, 0, 6, 1).put(1, 15, 7, BAD).put(1, -1, 7, BAD);
        p.word(0, 60).word(1, 6).word(15, 5).word(16, 0).sound();
        p = Probe.of(2048).alloc(3, 1).resize(1, 2047, 1).put(1, 2046, 5, 1).put(1, 2047, 6, BAD).word(2047, 5);
        p.sound();
    }

    private static void word() {
        Report.says("WORD w of THE POOL. 0: BAD.");
        Probe p = Probe.of(16).alloc(15, 1).put(1, 14, 9, 1).word(0, 60).word(15, 9);
        for (int w : new int[] {LEAST, LEAST + 15, -16, -1, 16, 17, 2047, 2048, 65536 + 15, MOST}) {
            p.word(w, 0);
        }
        p.grow(4, 20).word(16, 13).word(19, 3).word(20, 0);
        Probe.of(2048).word(2047, 2047).word(2048, 0).word(2049, 0).word(-2047, 0);
    }

    private static void spoil() {
        Report.says("WORD w becomes v, and THE POOL is SPOILT: 1. BAD.");
        for (int w : new int[] {LEAST, LEAST + 15, -16, -1, 16, 17, 2047, 2048, 65536 + 15, MOST}) {
            Probe.of(16).spoil(w, 1, BAD).count(2, 0).blocks(-15).sound();
        }
        for (int w = 0; w < 16; w++) {
            Probe.of(16).spoil(w, Long.MIN_VALUE, 1).count(2, 1).word(w, Long.MIN_VALUE);
            Probe.of(16).spoil(w, Long.MAX_VALUE, 1).count(2, 1).word(w, Long.MAX_VALUE);
        }
        // laid as it was is laid, too
        Probe.of(16).spoil(0, 61, 1).count(2, 1).sound();
        Probe.of(2048).spoil(2048, 1, BAD).count(2, 0).spoil(2047, 2047, 1).count(2, 1).sound();
        Probe.of(16).spoil(16, 1, BAD).grow(4, 20).spoil(19, 19, 1).spoil(20, 1, BAD).sound();
    }

    private static void classOf() {
        Report.says("The CLASS of a BLOCK of n WORDS (1 .. 4095)");
        Probe p = new Probe();
        for (int n : new int[] {LEAST, LEAST + 1, -8, -1, 0, 4096, 4097, 8192, 1 << 30, MOST}) {
            p.classOf(n, false, BAD).classOf(n, true, BAD);
        }
        for (int n = 1; n <= 7; n++) {
            p.classOf(n, false, n);
        }
        // the first and the last n of a power's first CLASS, and of its last one
        for (int b = 3; b <= 11; b++) {
            int first = 8 * (b - 2);
            int width = 1 << (b - 3);
            p.classOf(1 << b, false, first).classOf((1 << b) + width - 1, false, first);
            p.classOf((1 << b) + width, false, first + 1).classOf((2 << b) - width - 1, false, first + 6);
            p.classOf((2 << b) - width, false, first + 7).classOf((2 << b) - 1, false, first + 7);
        }
        p.classOf(4095, false, 79);

        Report.says("The CLASS of a WISH for n WORDS (3, if n is less) is that of n, if n is below 8, "
            + "else that of n + 2^(b - 3) - 1.");
        for (int n = 1; n <= 7; n++) {
            p.classOf(n, true, n < 3 ? 3 : n);
        }
        for (int b = 3; b <= 11; b++) {
            int first = 8 * (b - 2);
            int width = 1 << (b - 3);
            p.classOf(1 << b, true, first).classOf((1 << b) + 1, true, first + 1);
            p.classOf((1 << b) + width, true, first + 1).classOf((1 << b) + width + 1, true, first + 2);
            p.classOf((2 << b) - width, true, first + 7);
            p.classOf((2 << b) - 1, true, b == 3 ? 15 : first + 8);
        }
        p.classOf(1920, true, 71).classOf(1921, true, 72).classOf(3840, true, 79).classOf(3841, true, 80);
        p.classOf(4095, true, 80).classOf(4096, true, BAD);
    }

    private static void listed() {
        Report.says("PLACE of BLOCK i (from 0) of the LIST of CLASS c (8 f + s, 0 .. 71).");
        for (int c : new int[] {LEAST, -72, -1, 72, 79, 80, MOST}) {
            Probe.of(2048).listed(c, 0, BAD).listed(c, 1, BAD);
        }
        for (int i : new int[] {LEAST, -2, -1}) {
            Probe.of(2048).listed(71, i, BAD).listed(0, i, BAD);
        }
        for (int i : new int[] {1, 2, 511, 512, 2048, MOST}) {
            Probe.of(2048).listed(71, i, NONE).listed(0, i, NONE);
        }
        Probe p = Probe.of(2048).listed(71, 0, 1);
        for (int c = 0; c <= 70; c++) {
            p.listed(c, 0, NONE);
        }
    }

    private static void bits() {
        Report.says("The bits of s of those LISTS of f that are not empty (0 .. 8); "
            + "of f = 9 the bits of f that have such ones.");
        for (int f : new int[] {LEAST, -9, -1, 10, 11, 32, 41, MOST}) {
            Probe.of(2048).bits(f, BAD);
        }
        Probe p = Probe.of(2048).bits(8, 128).bits(9, 256);
        for (int f = 0; f <= 7; f++) {
            p.bits(f, 0);
        }
        p = Probe.of(16).alloc(15, 1);
        for (int f = 0; f <= 9; f++) {
            p.bits(f, 0);
        }
        Probe.cut(-3, 3, -7).bits(0, 8 + 128).bits(9, 1);
    }

    private static void block() {
        Report.says("Of BLOCK i in THE POOL, from WORD 0 on: 0 its PLACE, 1 its WORDS, 2 whether it is FREE (1, 0). "
            + "BAD: another what, i below 0; SPOILT; NONE: there are not so many.");
        for (int what : new int[] {LEAST, -1, 3, 4, MOST}) {
            Probe.of(16).block(0, what, BAD).block(1, what, BAD);
        }
        for (int i : new int[] {LEAST, LEAST + 1, -1}) {
            Probe.of(16).block(i, 0, BAD).block(i, 1, BAD).block(i, 2, BAD);
        }
        for (int i : new int[] {1, 2, 4, 511, 512, 2048, MOST}) {
            Probe.of(16).block(i, 0, NONE).block(i, 1, NONE).block(i, 2, NONE);
        }
        Probe.cut(3, -3, 7).block(0, 2, 0).block(1, 2, 1).block(2, 0, 9).block(2, 1, 7).block(3, 0, NONE);
    }

    private static void count() {
        Report.says("4 the WORDS of USED BLOCKS, 5 of FREE ones, 6 USED BLOCKS, 7 FREE ones, "
            + "8 the most WORDS of a FREE one (0)");
        for (int what : new int[] {LEAST, -1, 9, 10, MOST}) {
            Probe.of(16).count(what, BAD);
        }
        Probe.of(16).alloc(15, 1).count(4, 15).count(5, 0).count(6, 1).count(7, 0).count(8, 0);
        Probe.of(16).count(4, 0).count(5, 15).count(6, 0).count(7, 1).count(8, 15);
        Probe.cut(-3, 7, -9, 4, -8).count(4, 11).count(5, 20).count(6, 2).count(7, 3).count(8, 9);
        Probe.cut(-9, 7, -3, 4).count(8, 9).free(23, 8).count(8, 9).free(11, 26).count(8, 26);
    }

    public static void main(String[] args) {
        newObject();
        open();
        alloc();
        aligned();
        resize();
        grow();
        places();
        size();
        put();
        word();
        spoil();
        classOf();
        listed();
        bits();
        block();
        count();
        Report.end();
    }
}
