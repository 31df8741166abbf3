/** The six that check() tells, each at its edge, and which of two is told. */
public final class CheckTest {
    private static final int NONE = Probe.NONE, BAD = Probe.BAD;
    private static final int SIZE = 1, AHEAD = 2, TWO = 3, END = 4, LINK = 5, LOST = 6;
    private static final long INT = 1L << 32;

    /**
     * Headers 0, 6, 12, 18, 24, 30 of blocks of 5 and 36 of one of 27, the first, third, fifth and last of
     * them free; the list of class 5 has the places 25, 13 and 1.
     */
    private static Probe striped() {
        return Probe.cut(-5, 5, -5, 5, -5, 5, -27).list(5, 25, 13, 1).list(21, 37);
    }

    /** One word is spoilt; when it is laid as it was, all is as before. */
    private static void told(int w, long was, int kind, int at, long... values) {
        for (long v : values) {
            Probe p = striped().word(w, was).spoil(w, v, 1);
            if (kind == 0) {
                p.sound();
            } else {
                p.wrong(kind, at);
            }
            p.spoil(w, was, 1).where(at).count(2, 1).sound().blocks(-5, 5, -5, 5, -5, 5, -27);
            p.list(5, 25, 13, 1).alloc(5, 25);
        }
    }

    private static void size() {
        Report.says("1 SIZE: the HEADER is below 0, or its n below 3 or beyond the end.");
        told(0, 21, SIZE, 0, -1, -3, -21, -22, Long.MIN_VALUE, Long.MIN_VALUE + 21);
        told(6, 22, SIZE, 6, -1, -22, -INT, Long.MIN_VALUE, Long.MIN_VALUE + 22);
        told(36, 109, SIZE, 36, -1, -109, Long.MIN_VALUE + 109);
        // n is 0, 1, 2; with 3 the BLOCK ends early, and WORD 10 is no HEADER
        told(6, 22, SIZE, 6, 0, 1, 2, 3, 4, 6, 8, 10, 11);
        told(6, 22, SIZE, 10, 14);
        told(36, 109, SIZE, 36, 0, 1, 9, 11);
        told(0, 21, SIZE, 0, 0, 1, 8, 9);
        // n to the end, and one beyond
        told(36, 109, SIZE, 36, 113, 4 * 28, 4 * 2048 + 1);
        told(30, 22, LINK, NONE, 4 * 33 + 2);
        told(30, 22, SIZE, 30, 4 * 34 + 2, 4 * 35 + 2, 4 * 64 + 2);
        told(0, 21, LINK, NONE, 4 * 63);
        told(0, 21, END, 0, 4 * 63 + 1);
        told(0, 21, SIZE, 0, 4 * 64, 4 * 64 + 1, 4 * 65);
        // n that an int has not, or has only by wrapping around
        told(6, 22, SIZE, 6, Long.MAX_VALUE, Long.MAX_VALUE - 1, 4 * INT + 22, INT + 22, 4 * (INT / 2 - 1) + 2);
        told(6, 22, SIZE, 6, 4 * (INT / 2) + 22, 4 * (INT - 1) + 2, 4 * (INT / 2 - 7) + 2, 1L << 62, (1L << 62) + 22);

        // a BLOCK of 3 just at the end, and HEADERS in its last three WORDS
        Probe.of(16).alloc(15, 1).put(1, 11, 12, 1).spoil(0, 44, 1).sound().blocks(11, 3).free(13, 3).sound();
        Probe.of(16).alloc(15, 1).put(1, 11, 16, 1).spoil(0, 44, 1).wrong(SIZE, 12);
        Probe.of(16).alloc(15, 1).put(1, 12, 12, 1).spoil(0, 48, 1).wrong(SIZE, 13);
        Probe.of(16).alloc(15, 1).put(1, 13, 12, 1).spoil(0, 52, 1).wrong(SIZE, 14);
        Probe.of(16).alloc(15, 1).put(1, 14, 12, 1).spoil(0, 56, 1).wrong(SIZE, 15);
        Probe.of(16).alloc(15, 1).spoil(0, 60, 1).sound().spoil(0, 64, 1).wrong(SIZE, 0);
        // the end is where THE POOL was grown to
        Probe.of(16).alloc(15, 1).grow(4, 20).spoil(16, 17, 1).wrong(SIZE, 16).spoil(16, 13, 1).sound();
        Probe.of(2048).spoil(0, 8193, 1).wrong(SIZE, 0).spoil(0, 8189, 1).sound();
    }

    private static void ahead() {
        Report.says("2 AHEAD: its 2 is not told as the one ahead is.");
        // of the first one there is none ahead
        told(0, 21, AHEAD, 0, 22, 23);
        told(6, 22, AHEAD, 6, 20);
        told(12, 21, AHEAD, 12, 22, 23);
        told(18, 22, AHEAD, 18, 20);
        told(36, 109, AHEAD, 36, 110, 111);
        // the one ahead is told as another
        told(0, 21, AHEAD, 6, 20);
        told(24, 21, AHEAD, 30, 20);
        // behind a USED one that is told as FREE
        Probe.cut(4, 4, 5).spoil(5, 17, 1).spoil(9, 4, 1).wrong(AHEAD, 10).spoil(10, 22, 1).wrong(LOST, 5);

        Report.says("at each one the first of these that fits");
        // SIZE goes before AHEAD, AHEAD before TWO, TWO before END
        told(6, 22, SIZE, 6, 8);
        told(6, 22, AHEAD, 6, 21);
        told(6, 22, TWO, 6, 23);
        Probe.cut(-5, 5, -5, 5).spoil(0, 23, 1).spoil(5, 0, 1).wrong(AHEAD, 0);
        Probe.cut(-5, 5, 5).spoil(0, 4 * 16 + 3, 1).wrong(AHEAD, 0).spoil(0, 4 * 18 + 3, 1).wrong(SIZE, 0);
    }

    private static void two() {
        Report.says("3 TWO: it and the one ahead are FREE.");
        told(18, 22, TWO, 18, 23);
        told(30, 22, TWO, 30, 23);
        // its last WORD may be right
        striped().spoil(11, 5, 1).spoil(6, 23, 1).wrong(TWO, 6).spoil(6, 22, 1).sound();
        // at the end, and behind the BLOCK at the first WORD
        Probe.cut(4, -4, 5).spoil(10, 23, 1).wrong(TWO, 10).spoil(15, 5, 1).wrong(TWO, 10);
        // the whole of THE POOL cut in two FREE ones
        Probe.of(16).spoil(0, 29, 1).spoil(7, 7, 1).spoil(8, 31, 1).spoil(15, 7, 1).wrong(TWO, 8);
        Probe.of(16).spoil(0, 29, 1).spoil(7, 7, 1).spoil(8, 30, 1).wrong(LINK, NONE);
    }

    private static void end() {
        Report.says("4 END: it is FREE, and its last WORD is not n.");
        told(5, 5, END, 0, 4, 6, 0, -5, INT + 5, Long.MIN_VALUE, Long.MAX_VALUE, Long.MIN_VALUE + 5, 21);
        told(29, 5, END, 24, 4, 6);
        told(63, 27, END, 36, 26, 28, 0, -27, INT + 27);
        // the last WORD of a USED one is its own
        told(11, 0, 0, NONE, 4, 5, -1, Long.MIN_VALUE);
        told(35, 0, 0, NONE, 4, 5, -1);
        // in the least BLOCK it is the WORD behind the links
        Probe.cut(-3, 3, -7).spoil(3, 4, 1).wrong(END, 0).spoil(3, 2, 1).wrong(END, 0).spoil(3, 3, 1).sound();
        // the greatest
        Probe.of(2048).spoil(2047, 2046, 1).wrong(END, 0).spoil(2047, 2047, 1).sound();
        Probe.of(2048).spoil(2046, 7, 1).sound().spoil(3, 7, 1).sound();
    }

    private static void order() {
        Report.says("CHECKED: BLOCKS by HEADERS from WORD 0 on");
        striped().spoil(12, 0, 1).spoil(36, 0, 1).wrong(SIZE, 12).spoil(12, 21, 1).wrong(SIZE, 36);
        striped().spoil(5, 0, 1).spoil(6, 20, 1).wrong(END, 0).spoil(5, 5, 1).wrong(AHEAD, 6);
        striped().spoil(17, 0, 1).spoil(6, 23, 1).wrong(TWO, 6).spoil(6, 22, 1).wrong(END, 12);
        striped().spoil(63, 0, 1).spoil(30, 8, 1).wrong(SIZE, 30).spoil(30, 22, 1).wrong(END, 36);

        Report.says("Then LISTS by f, s, from the first BLOCK on");
        // HEADERS go before links, the last one of them too
        striped().spoil(25, 7, 1).spoil(63, 0, 1).wrong(END, 36).spoil(63, 27, 1).wrong(LINK, 24);
        // by f: the lower one has the higher PLACE; by s, too
        Probe.cut(-20, 3, -5, 3).spoil(1, 26, 1).spoil(26, 1, 1).wrong(LINK, 25).spoil(26, 0, 1).wrong(LINK, 0);
        Probe.cut(-7, 3, -4, 3).spoil(1, 13, 1).spoil(13, 1, 1).wrong(LINK, 12).spoil(13, 0, 1).wrong(LINK, 0);
        Probe.cut(-7, 3, -9, 3).spoil(13, 1, 1).spoil(1, 13, 1).wrong(LINK, 0).spoil(1, 0, 1).wrong(LINK, 12);
        // in one LIST: 25, 13, 1
        striped().spoil(25, 7, 1).spoil(13, 7, 1).wrong(LINK, 24).spoil(25, 13, 1).wrong(LINK, 12);
        striped().spoil(26, 1, 1).spoil(25, 7, 1).wrong(LINK, NONE).spoil(26, 0, 1).wrong(LINK, 24);
    }

    private static void link() {
        Report.says("5 LINK: what is told as next (or as first of the LIST) is no PLACE of a FREE BLOCK");
        // USED PLACES, HEADERS, WORDS inside, and beyond THE POOL
        told(25, 13, LINK, 24, 7, 19, 31, 12, 24, 36, 14, 26, 17, 3, 63, 64, 65, 2047, 2048, 4096);
        told(25, 13, LINK, 24, -1, -13, -25, Long.MIN_VALUE, Long.MAX_VALUE, INT + 13, INT, INT / 2, 13 - INT);
        told(13, 1, LINK, 12, 7, -1, 64, INT + 1);
        told(1, 0, LINK, 0, 7, 2, -1, 64, INT, Long.MIN_VALUE, Long.MAX_VALUE);
        told(37, 0, LINK, 36, 7, 38, -1, 64, INT);
        // the first of the LIST is USED now, or is no BLOCK any more
        striped().spoil(24, 20, 1).spoil(30, 20, 1).wrong(LINK, NONE);
        striped().spoil(24, 21, 1).spoil(18, 4 * 11 + 2, 1).wrong(AHEAD, 30).spoil(30, 20, 1).wrong(LINK, NONE);
        // the one in the middle, and the last
        striped().spoil(12, 20, 1).spoil(18, 20, 1).wrong(LINK, 24);
        striped().spoil(0, 20, 1).spoil(6, 20, 1).wrong(LINK, 12);

        Report.says("or of one of another CLASS");
        told(25, 13, LINK, 24, 37);
        told(1, 0, LINK, 0, 37);
        told(37, 0, LINK, 36, 1, 13, 25);
        Probe.cut(-7, 3, -8, 3).spoil(1, 13, 1).spoil(14, 1, 1).wrong(LINK, 0);
        // its HEADER tells another n: of another CLASS, and of the same
        Probe p = Probe.cut(-16, 5, 5, -6).spoil(0, 73, 1).spoil(18, 18, 1).spoil(19, 14, 1).wrong(LINK, NONE);
        p.spoil(0, 69, 1).spoil(17, 17, 1).spoil(18, 18, 1).sound().blocks(-17, 4, 5, -6).list(16, 1);
        p.alloc(16, 1).blocks(17, 4, 5, -6).sound();
        // a next one of the same CLASS, but of another n
        p = Probe.cut(-17, 3, -16, 3).list(16, 23, 1).spoil(23, 1, 1).sound().spoil(23, 0, 1).wrong(LOST, 0);

        Report.says("or its WORD 1 is not the one ahead");
        told(26, 0, LINK, NONE, 1, 13, 25, -1, INT, Long.MIN_VALUE, Long.MAX_VALUE);
        told(14, 25, LINK, 24, 0, 1, 13, 24, 26, -25, INT + 25, Long.MIN_VALUE, Long.MAX_VALUE);
        told(2, 13, LINK, 12, 0, 1, 25, 12, 14, INT + 13);
        told(38, 0, LINK, NONE, 1, 37, -1, INT);
        told(25, 13, LINK, 24, 1);

        Report.says("or it was met already");
        told(25, 13, LINK, 24, 25);
        told(13, 1, LINK, 12, 25, 13);
        told(1, 0, LINK, 0, 25, 13, 1);
        told(37, 0, LINK, 36, 37);
        // a ring whose links all tell the one ahead
        striped().spoil(1, 25, 1).spoil(26, 1, 1).wrong(LINK, NONE);
        striped().spoil(37, 37, 1).spoil(38, 37, 1).wrong(LINK, NONE);
        striped().spoil(13, 13, 1).spoil(14, 13, 1).wrong(LINK, 24);
        striped().spoil(1, 13, 1).spoil(14, 1, 1).wrong(LINK, 24);
    }

    private static void lost() {
        Report.says("6 LOST: a FREE BLOCK that was not met, the first by PLACES.");
        told(25, 13, LOST, 0, 0);
        told(13, 1, LOST, 0, 0);
        // left out in the middle
        striped().spoil(25, 1, 1).spoil(2, 25, 1).wrong(LOST, 12);
        // told as FREE, as is due, but in no LIST: inside, two of them, the first, the last
        Probe p = Probe.cut(4, 4, 4, 4, 4, -9).spoil(5, 17, 1).spoil(9, 4, 1).spoil(10, 18, 1).wrong(LOST, 5);
        p.spoil(15, 17, 1).spoil(19, 4, 1).spoil(20, 18, 1).wrong(LOST, 5);
        p.spoil(5, 16, 1).spoil(10, 16, 1).wrong(LOST, 15).spoil(15, 16, 1).spoil(20, 16, 1).sound();
        Probe.cut(4, 4, 5).spoil(0, 17, 1).spoil(4, 4, 1).spoil(5, 18, 1).wrong(LOST, 0);
        Probe.cut(4, 4, 5).spoil(10, 21, 1).spoil(15, 5, 1).wrong(LOST, 10);
        Probe.of(16).alloc(15, 1).spoil(0, 61, 1).wrong(LOST, 0);
        // LINK goes before LOST
        striped().spoil(25, 0, 1).spoil(38, 1, 1).wrong(LINK, NONE).spoil(38, 0, 1).wrong(LOST, 0);
        // of the lower PLACE, though of the higher CLASS
        Probe.cut(-9, 4, -3, 4, -9, 4, -3, 4).list(9, 25, 1).list(3, 40, 16).spoil(25, 0, 1).spoil(40, 0, 1)
            .wrong(LOST, 0);
    }

    private static void told() {
        Report.says("CHECKED: 0, or what is wrong first.");
        new Probe().check(0).check(0).sound();
        Probe.of(16).alloc(15, 1).sound();
        striped().sound().sound();
        // WORDS that are nobody's
        told(3, 0, 0, NONE, -1, Long.MIN_VALUE, 5);
        told(7, 0, 0, NONE, -1, 13, Long.MAX_VALUE);
        // a POOL that was cut anew is taken as it is
        Probe p = Probe.of(32).alloc(9, 1).put(1, 4, 16, 1).spoil(0, 16, 1).sound().blocks(4, 4, -21).free(6, 26);
        p.size(1, 4).alloc(3, 6).size(6, 3).sound();
        // one of the LIST is told as USED, and the links go around it
        striped().spoil(25, 1, 1).spoil(2, 25, 1).spoil(12, 20, 1).spoil(18, 20, 1).sound().list(5, 25, 1)
            .blocks(-5, 5, 5, 5, -5, 5, -27).count(6, 4).count(7, 3).free(13, 5).list(5, 13, 25, 1).sound();

        Report.says("Where the latest check() told what is wrong: the WORD of the HEADER (of 5: that of the one ahead "
            + "in the LIST, NONE of the first); NONE: it told 0, there was none since open().");
        new Probe().where(NONE).spoil(0, 0, 1).where(NONE).check(SIZE).where(0).where(0).spoil(0, 253, 1).where(0)
            .check(0).where(NONE);
        p = striped().spoil(12, 0, 1).wrong(SIZE, 12).open(15, BAD).where(12).alloc(3, Probe.SPOILT).where(12);
        p.open(16, 1).where(NONE).check(0).where(NONE);
        striped().spoil(12, 0, 1).wrong(SIZE, 12).spoil(0, 0, 1).where(12).check(SIZE).where(0);
        striped().spoil(12, 0, 1).wrong(SIZE, 12).spoil(12, 21, 1).spoil(26, 9, 1).wrong(LINK, NONE);
        striped().spoil(14, 0, 1).wrong(LINK, 24).spoil(14, 25, 1).spoil(13, 0, 1).wrong(LOST, 0);
        Probe.of(2048).alloc(3, 1).resize(1, 2043, 1).spoil(2044, 0, 1).wrong(SIZE, 2044);
    }

    public static void main(String[] args) {
        size();
        ahead();
        two();
        end();
        order();
        link();
        lost();
        told();
        Report.end();
    }
}
