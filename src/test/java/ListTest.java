/** Classes and lists at their borders: empty ones, one block, all blocks; what is found; how many links there are. */
public final class ListTest {
    private static final int NONE = Probe.NONE, BAD = Probe.BAD, FULL = Probe.FULL;

    /** Every pool there is: its one block has each n from 15 to 2047, and so is at every border of a class. */
    private static void everyBody() {
        Report.says("Else, with 2^b the greatest power that is not above n: (b - 2, (n / 2^(b - 3), cut) - 8). "
            + "The LIST of a CLASS has the FREE BLOCKS whose n is of it");
        for (int words = 16; words <= 2048; words++) {
            int body = words - 1;
            int b = 31 - Integer.numberOfLeadingZeros(body);
            int width = 1 << (b - 3);
            int f = b - 2;
            int s = body / width - 8;
            int least = body / width * width;
            int c = 8 * f + s;
            Probe p = Probe.of(words).classOf(body, false, c).list(c, 1).bits(f, 1 << s).bits(9, 1 << f);
            p.found(least, 1).found(least + 1, NONE).list(c - 1);
            if (c < 71) {
                p.list(c + 1);
            }
        }

        Report.says("of n below 8: (0, n).");
        for (int n = 3; n <= 14; n++) {
            Probe p = Probe.cut(-n, 14).list(n, 1).list(n - 1).list(n + 1).found(n, 1).found(n + 1, NONE);
            p.bits(0, n < 8 ? 1 << n : 0).bits(1, n < 8 ? 0 : 1 << (n - 8)).bits(9, n < 8 ? 1 : 2);
        }
    }

    private static void order() {
        Report.says("one that comes is its first");
        Probe p = Probe.cut(3, 3, 3, 3, 3, 3, 3).list(3);
        p.free(9, 3).list(3, 9).free(1, 3).list(3, 1, 9).free(25, 3).list(3, 25, 1, 9);
        p.free(17, 3).list(3, 17, 25, 1, 9);
        p.found(3, 17).alloc(3, 17).list(3, 25, 1, 9).alloc(3, 25).list(3, 1, 9).alloc(3, 1).list(3, 9);
        p.alloc(3, 9).list(3).found(3, NONE).alloc(3, NONE).bits(0, 0).bits(9, 0).sound();
        // leaving from the middle, as the last, as the first
        p = Probe.cut(-3, 3, -3, 3, -3, 3, 4).list(3, 17, 9, 1);
        p.free(13, 11).list(3, 1).list(11, 9).sound();
        p = Probe.cut(-3, 3, 3, 3, -3, 3, 4).list(3, 17, 1).free(5, 7).list(3, 17).list(7, 1).sound();
        p = Probe.cut(-3, 3, 3, 3, -3, 3, 4).list(3, 17, 1).free(21, 7).list(3, 1).list(7, 17).sound();
        // one that leaves its LIST to come to the same again is its first
        p = Probe.cut(-80, 3, 4, -80, 3).list(34, 91, 1).free(82, 84).list(34, 1, 91).links(2).sound();
        // two n of one CLASS are in one LIST, in the order in which they came
        p = Probe.cut(-17, 3, -16, 3, -18, 3).list(16, 23, 1).list(17, 44).found(16, 23).found(17, 44).found(18, 44);
        p = Probe.cut(16, 3, -17, 3).free(1, 16).list(16, 1, 22).found(16, 1).found(17, NONE);
    }

    private static void found() {
        Report.says("FOUND for it is: the first one of its LIST; if that is empty, of the LIST with the least s "
            + "above it and the same f that is not; else with the least f above it, and there the least s; else none.");
        // places 1, 7, 11, 19, 23, 32, 36 with n 5, 7, 8, 20; the USED ones between have 3
        Probe p = Probe.cut(-5, 3, -7, 3, -8, 3, -20, 3);
        p.found(1, 1).found(2, 1).found(3, 1).found(4, 1).found(5, 1).found(6, 11).found(7, 11);
        p.found(8, 23).found(9, 36).found(15, 36).found(16, 36).found(20, 36).found(21, NONE).found(2048, NONE);
        // the greatest s of the same f goes before the least of the next f
        Probe.cut(-16, 3, -15, 3).found(9, 22).found(15, 22).found(16, 1).found(8, 22);
        Probe.cut(-8, 3, -7, 3).found(7, 14).found(3, 14).found(8, 1);
        // the least s of the next f, though a greater one came later
        Probe.cut(-16, 3, -30, 3).found(9, 1).found(16, 1).found(17, 22).found(29, 22).found(30, 22).found(31, NONE);
        // the least f above, not a greater one that came later
        Probe.cut(-9, 3, -40, 3).found(3, 1).found(9, 1).found(10, 15).found(40, 15).found(41, NONE);
        // the first of the LIST, though another of it would be nearer to the WISH
        Probe.cut(-80, 3, -87, 3).found(80, 86).alloc(80, 86).blocks(-80, 3, 80, -6, 3);
        // none at all
        Probe.of(16).alloc(15, 1).found(1, NONE).found(2048, NONE).alloc(1, NONE).aligned(1, 2, NONE).count(3, 2);

        Report.says("The PLACE that alloc(n) would tell.");
        for (int n = 1; n <= 24; n++) {
            int due = n <= 5 ? 1 : n <= 7 ? 11 : n <= 8 ? 23 : n <= 20 ? 36 : NONE;
            p = Probe.cut(-5, 3, -7, 3, -8, 3, -20, 3).found(n, due).links(1).count(3, 0).alloc(n, due);
            p.links(due == NONE ? 1 : n == 1 || n == 2 || n == 3 ? 1 : n > 8 && n <= 16 ? 2 : 1);
        }
    }

    private static void links() {
        Report.says("LINKS counts BLOCKS that come to a LIST or leave one, in the latest alloc(), aligned(), free(), "
            + "resize(), grow() that was not refused.");
        Probe p = Probe.cut(5, 3, -30).links(2);
        // what is refused, and what is asked, leaves it
        p.alloc(0, BAD).links(2).alloc(2048, NONE).links(2).aligned(1, 3, BAD).links(2).aligned(99, 2, NONE).links(2);
        p.free(0, BAD).links(2).resize(1, 0, BAD).links(2).resize(1, 99, NONE).links(2).grow(3, BAD).links(2);
        p.open(15, BAD).links(2).size(1, 5).put(1, 0, 9, 1).word(1, 9).found(3, 11).listed(22, 0, NONE).links(2);
        p.listed(23, 0, 11).block(0, 0, 1).bits(9, 4).classOf(9, true, 9).where(NONE).count(4, 8).check(0).links(2);
        p.spoil(1, 9, 1).links(2).alloc(3, Probe.SPOILT).grow(4, Probe.SPOILT).links(2).check(0).links(2);
        // none, though it is not refused
        p.resize(1, 5, 1).links(0).resize(1, 2, 1).links(0).free(1, 5).links(1);
        Probe.of(2048).alloc(3, 1).links(2).grow(4, FULL).links(2).alloc(9, 5).links(2).free(5, 2043).links(2);

        Report.says("(LINKS are 0 behind open().)");
        new Probe().links(0);
        Probe.of(16).links(0);
        Probe.of(16).alloc(3, 1).links(2).open(16, 1).links(0);
        Probe.of(16).alloc(3, 1).links(2).open(15, BAD).links(2);

        Report.says("of alloc(), aligned(), resize() 3 how many were refused with NONE since open()");
        p = Probe.cut(5, 3, -5).count(3, 0).alloc(6, NONE).count(3, 1).alloc(6, NONE).count(3, 2).aligned(1, 2, NONE);
        p.count(3, 3).resize(1, 6, NONE).count(3, 4).found(6, NONE).listed(5, 1, NONE).block(3, 0, NONE).count(3, 4);
        p.alloc(0, BAD).aligned(1, 1, BAD).resize(1, 0, BAD).resize(2, 99, BAD).grow(3, BAD).free(2, BAD).count(3, 4);
        p.alloc(5, 11).count(3, 4).check(0).count(3, 4).spoil(1, 0, 1).alloc(6, Probe.SPOILT).count(3, 4);
        p.open(15, BAD).count(3, 4).open(16, 1).count(3, 0);
    }

    /** 509 blocks: two, then 253 times a free and a used one of three words, then twelve words that are free. */
    private static Probe many() {
        Probe p = Probe.of(2048).alloc(3, 1).alloc(6, 5);
        for (int i = 2; i <= 254; i++) {
            p.aligned(3, 8, 8 * i);
        }
        return p;
    }

    private static void fullList() {
        Report.says("PLACE of BLOCK i (from 0) of the LIST of CLASS c (8 f + s, 0 .. 71). BAD: c, i below 0; SPOILT; "
            + "NONE: it has not so many.");
        Probe p = many().count(6, 255).count(7, 254).count(8, 12).count(4, 768).count(5, 771);
        p.block(508, 0, 2036).block(508, 1, 12).block(508, 2, 1).block(509, 0, NONE).block(510, 0, NONE);
        p.listed(3, 0, 2028).listed(3, 1, 2020).listed(3, 251, 20).listed(3, 252, 12).listed(3, 253, NONE);
        p.list(12, 2036).bits(0, 8).bits(1, 16).bits(9, 3).sound();
        p.aligned(3, 8, NONE).size(2032, 3).size(2028, BAD).size(2036, BAD).put(2032, 2, 5, 1).word(2034, 5);
        p.alloc(4, 2036).block(509, 0, 2041).block(509, 1, 7).block(510, 0, NONE).alloc(4, 2041).alloc(4, NONE);
        p.alloc(3, 2028).listed(3, 0, 2020).listed(3, 251, 12).listed(3, 252, NONE).sound();
        many().free(2032, 20).links(3).listed(3, 0, 2020).list(18, 2028).block(506, 1, 20).block(507, 0, NONE).sound();
        many().free(16, 11).links(3).listed(3, 250, 28).listed(3, 251, NONE).list(11, 12).sound();
        // a fault in the last BLOCK, and in the last one of the LIST
        many().spoil(2035, 48, 1).wrong(5, NONE);
        many().spoil(2035, 53, 1).wrong(1, 2035);
        many().spoil(2047, 11, 1).wrong(4, 2035);
        many().spoil(12, 2028, 1).wrong(5, 11);
        many().spoil(12, 12, 1).wrong(5, 11);
        many().spoil(20, 0, 1).wrong(6, 11);

        Report.says("BLOCKS lie in it one behind the other, from WORD 0 to its end: a HEADER (one WORD), "
            + "then a BODY of n WORDS, 3 at least");
        // as many of the least as 511 calls can make: then one question each
        most().alloc(3, 2041);
        most().alloc(8, NONE);
        most().check(0);
        most().block(509, 0, 2037);
        most().block(510, 1, 7);
        most().block(511, 0, NONE);
        most().listed(7, 0, 2041);
        most().size(2037, 3);
        most().size(2041, BAD);
        most().free(2037, 11);
        most().free(1, 3);
        most().resize(2037, 11, 2037);
        most().count(6, 510);
        most().count(4, 1530);
        most().grow(4, FULL);
    }

    private static Probe most() {
        Probe p = Probe.of(2048);
        for (int i = 0; i < 510; i++) {
            p.alloc(3, 1 + 4 * i);
        }
        return p;
    }

    /**
     * As many blocks as there can be, all used, of three words each. To make them one by one would be too many calls:
     * a block whose words are such headers is copied by resize(), again and again, and at last its own header is laid.
     */
    private static Probe fullest(int words) {
        Probe p = Probe.of(words).alloc(11, 1).put(1, 3, 12, 1).put(1, 7, 12, 1);
        int end = 12;
        while (end < 1000) {
            copyBehind(p, end, words);
            p.alloc(2 * end + 3, 1).put(1, end - 1, 12, 1).put(1, end + 3, 12, 1);
            end = 2 * end + 4;
        }
        p.resize(1, 955, 1);
        copyBehind(p, 956, words);
        p.alloc(1019, 1).resize(1, words - 1, 1).put(1, 955, 12, 1).put(1, 959, 12, 1).put(1, 1019, 12, 1);
        for (int w = 1916; w < words; w += 4) {
            p.put(1, w - 1, 12, 1);
        }
        return p.spoil(0, 12, 1).sound();
    }

    /** The words ahead of the end are laid behind a block of three words that is there; then all is free. */
    private static void copyBehind(Probe p, int end, int words) {
        p.alloc(3, end + 1).resize(1, end, end + 5).free(end + 1, end + 3).free(end + 5, words - 1);
    }

    private static void fullPool() {
        Report.says("BLOCKS lie in it one behind the other, from WORD 0 to its end");
        Probe p = fullest(2048).count(0, 2048).count(4, 1536).count(5, 0).count(6, 512).count(7, 0).count(8, 0);
        p.block(511, 0, 2045).block(511, 1, 3).block(511, 2, 0).block(512, 0, NONE).size(2045, 3).size(2041, 3);
        p.alloc(1, NONE).aligned(1, 2, NONE).resize(2045, 4, NONE).count(3, 3).grow(4, FULL).bits(9, 0);
        p.put(2045, 2, 9, 1).word(2047, 9).resize(2045, 3, 2045).links(0).free(2045, 3).links(1).word(2047, 3).sound();
        p.block(511, 2, 1).count(6, 511).count(7, 1).count(8, 3).list(3, 2045).resize(2041, 7, 2041).sound();
        p.block(510, 1, 7).block(511, 0, NONE).free(2041, 7).free(2037, 11).alloc(3, 2037).sound();
        fullest(2048).spoil(2044, 16, 1).wrong(1, 2044).spoil(2044, 14, 1).wrong(2, 2044)
            .spoil(2044, 13, 1).wrong(4, 2044).spoil(2047, 3, 1).wrong(6, 2044).spoil(2044, 12, 1).sound();
        // the last one is looked at by grow(), too
        fullest(2044).count(6, 511).grow(5, FULL).grow(4, 2048).links(1).block(511, 0, 2045).block(511, 2, 1)
            .block(512, 0, NONE).sound();
        fullest(2044).free(2041, 3).grow(4, 2048).links(2).block(510, 1, 7).block(511, 0, NONE).sound();

        Report.says("The LIST of a CLASS has the FREE BLOCKS whose n is of it; one that comes is its first.");
        p = fullest(2048);
        for (int place = 1; place < 2048; place += 8) {
            p.free(place, 3);
        }
        p.count(6, 256).count(7, 256).count(5, 768).count(8, 3).bits(0, 8).bits(9, 1).sound();
        p.listed(3, 0, 2041).listed(3, 1, 2033).listed(3, 254, 9).listed(3, 255, 1).listed(3, 256, NONE);
        p.alloc(4, NONE).spoil(1, 2041, 1).wrong(5, 0).spoil(1, 0, 1).spoil(9, 0, 1).wrong(6, 0).spoil(9, 1, 1).sound();
        p.free(5, 11).links(3).listed(3, 253, 17).listed(3, 254, NONE).list(11, 1).alloc(3, 2041).free(2045, 3).sound();
    }

    public static void main(String[] args) {
        everyBody();
        order();
        found();
        links();
        fullList();
        fullPool();
        Report.end();
    }
}
