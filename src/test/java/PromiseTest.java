/** For each promise of the document: ordinary calls, its edges, and wrong calls. */
public final class PromiseTest {
    private static int wrong = 0;
    private static String promise = "";

    private static void due(String call, long got, long want) {
        if (got != want) {
            wrong++;
            System.out.println(promise + ": " + call + " answered " + got + ", due is " + want);
        }
    }

    private static TwoLevels pool(int words) {
        TwoLevels x = new TwoLevels();
        due("open(" + words + ")", x.open(words), 1);
        return x;
    }

    /** All blocks, as pairs of words and whether they are free. */
    private static void dueBlocks(TwoLevels x, int... want) {
        int place = 1;
        for (int i = 0; 2 * i < want.length; i++) {
            due("block(" + i + ", 0)", x.block(i, 0), place);
            due("block(" + i + ", 1)", x.block(i, 1), want[2 * i]);
            due("block(" + i + ", 2)", x.block(i, 2), want[2 * i + 1]);
            place += want[2 * i] + 1;
        }
        due("block(end, 0)", x.block(want.length / 2, 0), TwoLevels.NONE);
    }

    private static void dueList(TwoLevels x, int c, int... places) {
        for (int i = 0; i < places.length; i++) {
            due("listed(" + c + ", " + i + ")", x.listed(c, i), places[i]);
        }
        due("listed(" + c + ", end)", x.listed(c, places.length), TwoLevels.NONE);
    }

    private static void dueWords(TwoLevels x, int from, long... want) {
        for (int i = 0; i < want.length; i++) {
            due("word(" + (from + i) + ")", x.word(from + i), want[i]);
        }
    }

    private static void dueSound(TwoLevels x) {
        due("check()", x.check(), 0);
        due("where()", x.where(), TwoLevels.NONE);
    }

    private static void newObject() {
        due("NONE", TwoLevels.NONE, -1);
        due("BAD", TwoLevels.BAD, -2);
        due("SPOILT", TwoLevels.SPOILT, -3);
        due("FULL", TwoLevels.FULL, -4);
        TwoLevels x = new TwoLevels();
        due("count(0)", x.count(0), 64);
        dueBlocks(x, 63, 1);
        dueWords(x, 0, 253, 0, 0, 0);
        due("word(62)", x.word(62), 0);
        due("word(63)", x.word(63), 63);
        due("word(64)", x.word(64), 0);
        dueList(x, 31, 1);
        for (int what = 1; what <= 3; what++) {
            due("count", x.count(what), 0);
        }
        due("where()", x.where(), TwoLevels.NONE);
        due("spoil(64)", x.spoil(64, 1), TwoLevels.BAD);
        due("alloc(56)", x.alloc(56), 1);
    }

    private static void open() {
        TwoLevels x = new TwoLevels();
        int[] refused = {15, 0, -1, 2049, Integer.MIN_VALUE, Integer.MAX_VALUE};
        for (int words : refused) {
            due("open(" + words + ")", x.open(words), TwoLevels.BAD);
        }
        due("count(0)", x.count(0), 64);
        due("open(2048)", x.open(2048), 1);
        due("count(0)", x.count(0), 2048);
        dueBlocks(x, 2047, 1);
        due("word(0)", x.word(0), 8189);
        due("word(2047)", x.word(2047), 2047);
        due("bits(9)", x.bits(9), 256);

        due("alloc(9)", x.alloc(9), 1);
        due("put", x.put(1, 4, 99), 1);
        due("alloc(2048)", x.alloc(2048), TwoLevels.NONE);
        due("spoil(0, 0)", x.spoil(0, 0), 1);
        due("spoil(100, 5)", x.spoil(100, 5), 1);
        due("check()", x.check(), 1);
        due("where()", x.where(), 0);
        due("open(15)", x.open(15), TwoLevels.BAD);
        due("where()", x.where(), 0);
        due("count(1)", x.count(1), 2);
        due("count(2)", x.count(2), 1);
        due("count(3)", x.count(3), 1);
        due("open(16)", x.open(16), 1);
        due("count(1)", x.count(1), 0);
        due("count(2)", x.count(2), 0);
        due("count(3)", x.count(3), 0);
        due("where()", x.where(), TwoLevels.NONE);
        dueWords(x, 0, 61, 0, 0, 0, 0, 0, 0, 0, 0, 0, 0, 0, 0, 0, 0, 15, 0);
        dueList(x, 15, 1);
        due("bits(9)", x.bits(9), 2);
        due("bits(8)", x.bits(8), 0);
        dueSound(x);
    }

    private static void alloc() {
        TwoLevels x = pool(64);
        int[] refused = {0, -1, 2049, Integer.MIN_VALUE, Integer.MAX_VALUE};
        for (int n : refused) {
            due("alloc(" + n + ")", x.alloc(n), TwoLevels.BAD);
        }
        due("alloc(2048)", x.alloc(2048), TwoLevels.NONE);
        due("alloc(61)", x.alloc(61), TwoLevels.NONE);
        due("count(3)", x.count(3), 2);
        due("alloc(2)", x.alloc(2), 1);
        dueWords(x, 0, 12, 0, 0, 0, 4 * 59 + 1, 0, 0);
        due("word(63)", x.word(63), 59);
        due("alloc(52)", x.alloc(52), 5);
        dueBlocks(x, 3, 0, 52, 0, 6, 1);
        due("alloc(3)", x.alloc(3), 58);
        due("size(58)", x.size(58), 6);
        due("count(1)", x.count(1), 1);
        due("alloc(1)", x.alloc(1), TwoLevels.NONE);
        due("count(1)", x.count(1), 1);
        dueBlocks(x, 3, 0, 52, 0, 6, 0);
        dueSound(x);

        // four words more than the wish are cut off, three are not
        x = pool(17);
        due("alloc(12)", x.alloc(12), 1);
        dueBlocks(x, 12, 0, 3, 1);
        x = pool(16);
        due("alloc(12)", x.alloc(12), 1);
        dueBlocks(x, 15, 0);

        // the class of the wish is rounded up: a block of 17 is not found for 17, but for 16
        x = pool(18);
        due("alloc(17)", x.alloc(17), TwoLevels.NONE);
        due("alloc(16)", x.alloc(16), 1);

        // the body that becomes used stays as it is, the block behind is told
        x = pool(64);
        due("alloc(5)", x.alloc(5), 1);
        due("alloc(5)", x.alloc(5), 7);
        due("alloc(5)", x.alloc(5), 13);
        due("alloc(5)", x.alloc(5), 19);
        due("free(1)", x.free(1), 5);
        due("free(13)", x.free(13), 5);
        dueList(x, 5, 13, 1);
        dueWords(x, 12, 21, 1, 0, 0, 0, 5, 22);
        dueWords(x, 0, 21, 0, 13, 0, 0, 5, 22);
        due("alloc(4)", x.alloc(4), 13);
        dueWords(x, 12, 20, 1, 0, 0, 0, 5, 20);
        dueWords(x, 0, 21, 0, 0, 0, 0, 5, 22);
        due("spoil(0, 0)", x.spoil(0, 0), 1);
        due("alloc(4)", x.alloc(4), TwoLevels.SPOILT);
        due("alloc(2048)", x.alloc(2048), TwoLevels.SPOILT);
        due("alloc(0)", x.alloc(0), TwoLevels.BAD);
        due("count(3)", x.count(3), 0);
    }

    private static void aligned() {
        TwoLevels x = pool(300);
        int[] refused = {0, 1, 3, 6, 12, 63, 65, 128, -2, -64, Integer.MIN_VALUE, Integer.MAX_VALUE};
        for (int a : refused) {
            due("aligned(3, " + a + ")", x.aligned(3, a), TwoLevels.BAD);
        }
        due("aligned(0, 2)", x.aligned(0, 2), TwoLevels.BAD);
        due("aligned(-5, 2)", x.aligned(-5, 2), TwoLevels.BAD);
        due("aligned(2049, 2)", x.aligned(2049, 2), TwoLevels.BAD);
        due("aligned(2048, 64)", x.aligned(2048, 64), TwoLevels.NONE);
        due("count(3)", x.count(3), 1);

        // place 1: at least four words stand ahead
        due("aligned(1, 2)", x.aligned(1, 2), 6);
        due("count(1)", x.count(1), 3);
        dueBlocks(x, 4, 1, 3, 0, 290, 1);
        dueWords(x, 0, 17, 0, 0, 0, 4, 14, 0, 0, 0, 1161);
        // place 10 is divided by 2: nothing stands ahead
        due("aligned(5, 2)", x.aligned(5, 2), 10);
        due("count(1)", x.count(1), 2);
        due("aligned(3, 4)", x.aligned(3, 4), 16);
        due("aligned(3, 4)", x.aligned(3, 4), 20);
        due("aligned(3, 16)", x.aligned(3, 16), 32);
        due("aligned(3, 32)", x.aligned(3, 32), 64);
        due("aligned(3, 64)", x.aligned(3, 64), 128);
        due("aligned(3, 8)", x.aligned(3, 8), 40);
        dueSound(x);

        // what is ahead comes to its list first, so what is behind stands before it there
        x = pool(16);
        due("aligned(3, 8)", x.aligned(3, 8), 8);
        dueBlocks(x, 6, 1, 3, 0, 4, 1);
        x = pool(20);
        due("aligned(4, 8)", x.aligned(4, 8), 8);
        dueBlocks(x, 6, 1, 4, 0, 7, 1);
        x = pool(18);
        due("aligned(3, 8)", x.aligned(3, 8), 8);
        dueBlocks(x, 6, 1, 3, 0, 6, 1);
        dueList(x, 6, 12, 1);
        dueSound(x);

        // found is a block for n and a + 3, though a smaller one would do
        x = pool(16);
        due("aligned(10, 2)", x.aligned(10, 2), 6);
        dueBlocks(x, 4, 1, 10, 0);
        x = pool(16);
        due("aligned(11, 2)", x.aligned(11, 2), TwoLevels.NONE);
        due("count(3)", x.count(3), 1);
        dueBlocks(x, 15, 1);
        due("spoil(1, 0)", x.spoil(1, 0), 1);
        due("aligned(11, 2)", x.aligned(11, 2), TwoLevels.SPOILT);
        due("aligned(11, 5)", x.aligned(11, 5), TwoLevels.BAD);
        due("aligned(0, 4)", x.aligned(0, 4), TwoLevels.BAD);
        due("count(3)", x.count(3), 1);
    }

    private static void free() {
        TwoLevels x = pool(64);
        due("alloc(5)", x.alloc(5), 1);
        due("alloc(5)", x.alloc(5), 7);
        due("alloc(5)", x.alloc(5), 13);
        due("alloc(40)", x.alloc(40), 19);
        int[] refused = {0, -1, 2, 6, 8, 18, 20, 60, 63, 64, 65, Integer.MIN_VALUE, Integer.MAX_VALUE};
        for (int place : refused) {
            due("free(" + place + ")", x.free(place), TwoLevels.BAD);
        }
        due("free(7)", x.free(7), 5);
        due("count(1)", x.count(1), 1);
        due("free(7)", x.free(7), TwoLevels.BAD);
        dueBlocks(x, 5, 0, 5, 1, 5, 0, 40, 0, 4, 1);
        due("free(1)", x.free(1), 11);
        due("count(1)", x.count(1), 2);
        dueBlocks(x, 11, 1, 5, 0, 40, 0, 4, 1);
        dueWords(x, 0, 45, 0, 0, 0, 0, 0, 21, 0, 0, 0, 0, 11, 22);
        due("free(13)", x.free(13), 17);
        due("count(1)", x.count(1), 2);
        dueBlocks(x, 17, 1, 40, 0, 4, 1);
        due("free(19)", x.free(19), 63);
        due("count(1)", x.count(1), 3);
        dueBlocks(x, 63, 1);
        dueList(x, 31, 1);
        due("word(0)", x.word(0), 253);
        due("word(63)", x.word(63), 63);
        dueSound(x);

        // the block behind leaves its list ahead of the one that is ahead
        x = pool(64);
        due("alloc(5)", x.alloc(5), 1);
        due("alloc(4)", x.alloc(4), 7);
        due("alloc(5)", x.alloc(5), 12);
        due("alloc(44)", x.alloc(44), 18);
        due("free(12)", x.free(12), 5);
        due("free(1)", x.free(1), 5);
        dueList(x, 5, 1, 12);
        due("free(7)", x.free(7), 16);
        dueWords(x, 0, 65, 0, 0, 0, 0, 5, 18, 0, 0, 0, 0, 21, 0, 1, 0, 0, 16, 186);
        dueSound(x);

        due("spoil(5, 5)", x.spoil(5, 5), 1);
        due("free(18)", x.free(18), TwoLevels.SPOILT);
        due("free(2)", x.free(2), TwoLevels.SPOILT);
        due("free(1)", x.free(1), TwoLevels.SPOILT);
        due("free(63)", x.free(63), TwoLevels.SPOILT);
        due("free(0)", x.free(0), TwoLevels.BAD);
        due("free(64)", x.free(64), TwoLevels.BAD);
        due("free(-1)", x.free(-1), TwoLevels.BAD);
        due("check()", x.check(), 0);
        due("free(18)", x.free(18), 63);
    }

    private static void resize() {
        TwoLevels x = pool(64);
        due("alloc(20)", x.alloc(20), 1);
        due("alloc(10)", x.alloc(10), 22);
        int[] numbers = {0, -1, 2049, Integer.MIN_VALUE, Integer.MAX_VALUE};
        for (int n : numbers) {
            due("resize(1, " + n + ")", x.resize(1, n), TwoLevels.BAD);
        }
        int[] places = {0, -1, 2, 21, 33, 64, Integer.MIN_VALUE, Integer.MAX_VALUE};
        for (int place : places) {
            due("resize(" + place + ", 5)", x.resize(place, 5), TwoLevels.BAD);
        }
        // three left over stay, four are cut off
        due("resize(1, 17)", x.resize(1, 17), 1);
        due("count(1)", x.count(1), 0);
        due("size(1)", x.size(1), 20);
        due("resize(1, 16)", x.resize(1, 16), 1);
        due("count(1)", x.count(1), 1);
        dueBlocks(x, 16, 0, 3, 1, 10, 0, 31, 1);
        dueWords(x, 16, 0, 13, 0, 0, 3, 42);
        // what is cut off is put together with the free block behind
        due("resize(1, 12)", x.resize(1, 12), 1);
        due("count(1)", x.count(1), 2);
        dueBlocks(x, 12, 0, 7, 1, 10, 0, 31, 1);
        dueWords(x, 12, 0, 29, 0, 0, 0, 13, 0, 0, 7, 42);
        dueSound(x);
        // fewer than four left over stay, though a free block is behind
        due("resize(1, 9)", x.resize(1, 9), 1);
        due("count(1)", x.count(1), 0);
        due("size(1)", x.size(1), 12);
        // grown into the block behind, with what is left over cut off
        due("put(1, 0, 70)", x.put(1, 0, 70), 1);
        due("put(1, 11, 71)", x.put(1, 11, 71), 1);
        due("resize(1, 16)", x.resize(1, 16), 1);
        due("count(1)", x.count(1), 2);
        dueBlocks(x, 16, 0, 3, 1, 10, 0, 31, 1);
        due("word(13)", x.word(13), 29);
        // just enough: the whole of it, and the block behind is told
        due("resize(1, 20)", x.resize(1, 20), 1);
        due("count(1)", x.count(1), 1);
        dueBlocks(x, 20, 0, 10, 0, 31, 1);
        due("word(21)", x.word(21), 40);
        dueSound(x);
        // one more than there is room for: it moves, with its words
        due("put(1, 19, 72)", x.put(1, 19, 72), 1);
        due("resize(1, 21)", x.resize(1, 21), 33);
        due("count(1)", x.count(1), 3);
        dueBlocks(x, 20, 1, 10, 0, 21, 0, 9, 1);
        due("word(33)", x.word(33), 70);
        due("word(44)", x.word(44), 71);
        due("word(52)", x.word(52), 72);
        due("word(53)", x.word(53), 0);
        due("word(1)", x.word(1), 0);
        due("word(12)", x.word(12), 71);
        due("word(20)", x.word(20), 20);
        due("word(21)", x.word(21), 42);
        dueSound(x);
        // nothing is found: nothing changes but the count
        due("resize(22, 40)", x.resize(22, 40), TwoLevels.NONE);
        due("count(1)", x.count(1), 3);
        due("count(3)", x.count(3), 1);
        dueBlocks(x, 20, 1, 10, 0, 21, 0, 9, 1);
        // a wish below three is one for three
        due("resize(22, 1)", x.resize(22, 1), 22);
        dueBlocks(x, 20, 1, 3, 0, 6, 1, 21, 0, 9, 1);
        due("word(21)", x.word(21), 14);
        dueSound(x);

        // moved into the free block ahead, then put together with its rest
        x = pool(64);
        due("alloc(30)", x.alloc(30), 1);
        due("alloc(5)", x.alloc(5), 32);
        due("alloc(20)", x.alloc(20), 38);
        due("put(32, 4, 9)", x.put(32, 4, 9), 1);
        due("free(1)", x.free(1), 30);
        due("resize(32, 10)", x.resize(32, 10), 1);
        due("count(1)", x.count(1), 4);
        dueBlocks(x, 10, 0, 25, 1, 20, 0, 5, 1);
        due("word(5)", x.word(5), 9);
        dueSound(x);
        due("spoil(5, 9)", x.spoil(5, 9), 1);
        due("resize(1, 5)", x.resize(1, 5), TwoLevels.SPOILT);
        due("resize(7, 5)", x.resize(7, 5), TwoLevels.SPOILT);
        due("resize(63, 2048)", x.resize(63, 2048), TwoLevels.SPOILT);
        due("resize(1, 0)", x.resize(1, 0), TwoLevels.SPOILT);
        due("resize(0, 5)", x.resize(0, 5), TwoLevels.BAD);
        due("resize(64, 5)", x.resize(64, 5), TwoLevels.BAD);
        due("count(3)", x.count(3), 0);
    }

    private static void grow() {
        TwoLevels x = pool(16);
        int[] refused = {3, 0, -1, 1025, Integer.MIN_VALUE, Integer.MAX_VALUE};
        for (int n : refused) {
            due("grow(" + n + ")", x.grow(n), TwoLevels.BAD);
        }
        due("grow(4)", x.grow(4), 20);
        due("count(1)", x.count(1), 2);
        dueBlocks(x, 19, 1);
        dueWords(x, 15, 15, 14, 0, 0, 19, 0);
        due("alloc(18)", x.alloc(18), 1);
        due("grow(4)", x.grow(4), 24);
        due("count(1)", x.count(1), 1);
        dueBlocks(x, 19, 0, 3, 1);
        dueWords(x, 20, 13, 0, 0, 3, 0);
        dueSound(x);
        due("grow(1024)", x.grow(1024), 1048);
        due("count(1)", x.count(1), 2);
        due("grow(1001)", x.grow(1001), TwoLevels.FULL);
        due("count(1)", x.count(1), 2);
        due("count(0)", x.count(0), 1048);
        due("grow(1000)", x.grow(1000), 2048);
        due("grow(4)", x.grow(4), TwoLevels.FULL);
        dueBlocks(x, 19, 0, 2027, 1);
        dueSound(x);
        due("spoil(0, 0)", x.spoil(0, 0), 1);
        due("grow(4)", x.grow(4), TwoLevels.SPOILT);
        due("grow(3)", x.grow(3), TwoLevels.BAD);
        due("count(0)", x.count(0), 2048);

        // what an earlier pool left behind the end is not in the grown words
        due("spoil(20, 7)", x.spoil(20, 7), 1);
        due("open(16)", x.open(16), 1);
        due("grow(8)", x.grow(8), 24);
        dueWords(x, 16, 30, 0, 0, 0, 0, 0, 0, 23);
    }

    private static void size() {
        TwoLevels x = pool(64);
        due("size(1)", x.size(1), TwoLevels.BAD);
        due("alloc(1)", x.alloc(1), 1);
        due("alloc(9)", x.alloc(9), 5);
        due("size(1)", x.size(1), 3);
        due("size(5)", x.size(5), 9);
        int[] refused = {0, 2, 4, 6, 15, 64, -1, Integer.MIN_VALUE, Integer.MAX_VALUE};
        for (int place : refused) {
            due("size(" + place + ")", x.size(place), TwoLevels.BAD);
        }
        due("spoil(1, 0)", x.spoil(1, 0), 1);
        due("size(1)", x.size(1), TwoLevels.SPOILT);
        due("size(2)", x.size(2), TwoLevels.SPOILT);
        due("size(63)", x.size(63), TwoLevels.SPOILT);
        due("size(0)", x.size(0), TwoLevels.BAD);
        due("size(64)", x.size(64), TwoLevels.BAD);
    }

    private static void put() {
        TwoLevels x = pool(64);
        due("alloc(3)", x.alloc(3), 1);
        due("put(1, 0, min)", x.put(1, 0, Long.MIN_VALUE), 1);
        due("put(1, 2, max)", x.put(1, 2, Long.MAX_VALUE), 1);
        due("put(1, 3, 5)", x.put(1, 3, 5), TwoLevels.BAD);
        due("put(1, -1, 5)", x.put(1, -1, 5), TwoLevels.BAD);
        due("put(1, max, 5)", x.put(1, Integer.MAX_VALUE, 5), TwoLevels.BAD);
        due("put(2, 0, 5)", x.put(2, 0, 5), TwoLevels.BAD);
        due("put(5, 0, 5)", x.put(5, 0, 5), TwoLevels.BAD);
        due("put(0, 0, 5)", x.put(0, 0, 5), TwoLevels.BAD);
        due("put(64, 0, 5)", x.put(64, 0, 5), TwoLevels.BAD);
        dueWords(x, 0, 12, Long.MIN_VALUE, 0, Long.MAX_VALUE, 237);
        dueSound(x);
        due("count(2)", x.count(2), 0);
        due("spoil(1, 0)", x.spoil(1, 0), 1);
        due("put(1, 0, 5)", x.put(1, 0, 5), TwoLevels.SPOILT);
        due("put(1, -1, 5)", x.put(1, -1, 5), TwoLevels.SPOILT);
        due("put(2, 99, 5)", x.put(2, 99, 5), TwoLevels.SPOILT);
        due("put(0, 0, 5)", x.put(0, 0, 5), TwoLevels.BAD);
        due("put(64, 0, 5)", x.put(64, 0, 5), TwoLevels.BAD);
        due("word(1)", x.word(1), 0);
    }

    private static void wordAndSpoil() {
        TwoLevels x = pool(16);
        due("spoil(16)", x.spoil(16, 3), TwoLevels.BAD);
        due("spoil(-1)", x.spoil(-1, 3), TwoLevels.BAD);
        due("spoil(min)", x.spoil(Integer.MIN_VALUE, 3), TwoLevels.BAD);
        due("spoil(max)", x.spoil(Integer.MAX_VALUE, 3), TwoLevels.BAD);
        due("count(2)", x.count(2), 0);
        due("spoil(15)", x.spoil(15, Long.MIN_VALUE), 1);
        due("count(2)", x.count(2), 1);
        due("word(15)", x.word(15), Long.MIN_VALUE);
        due("spoil(15)", x.spoil(15, Long.MAX_VALUE), 1);
        due("word(15)", x.word(15), Long.MAX_VALUE);
        due("word(16)", x.word(16), 0);
        due("word(min)", x.word(Integer.MIN_VALUE), 0);
        due("word(max)", x.word(Integer.MAX_VALUE), 0);
        due("spoil(15)", x.spoil(15, 15), 1);
        due("count(2)", x.count(2), 1);
        dueSound(x);
        due("count(2)", x.count(2), 0);
        // a word that is laid as it was spoils too
        due("spoil(3, 0)", x.spoil(3, 0), 1);
        due("count(2)", x.count(2), 1);
        due("spoil(16)", x.spoil(16, 3), TwoLevels.BAD);
    }

    /** Three used blocks of five words between free ones of five: places 1, 7, 13, 19, 25 and the rest. */
    private static TwoLevels striped() {
        TwoLevels x = pool(64);
        for (int i = 0; i < 6; i++) {
            due("alloc(5)", x.alloc(5), 1 + 6 * i);
        }
        due("free(1)", x.free(1), 5);
        due("free(13)", x.free(13), 5);
        due("free(25)", x.free(25), 5);
        dueList(x, 5, 25, 13, 1);
        return x;
    }

    private static void dueWrong(int w, long v, int wrongIs, int at) {
        TwoLevels x = striped();
        long was = x.word(w);
        due("spoil(" + w + ", " + v + ")", x.spoil(w, v), 1);
        due("check() of " + v + " at " + w, x.check(), wrongIs);
        due("where() of " + v + " at " + w, x.where(), at);
        due("count(2)", x.count(2), wrongIs == 0 ? 0 : 1);
        due("spoil", x.spoil(w, was), 1);
        due("where()", x.where(), at);
        dueSound(x);
        due("count(2)", x.count(2), 0);
        due("alloc(3)", x.alloc(3), 25);
    }

    private static void checkAndWhere() {
        dueSound(striped());
        long[] sizes = {-1, -21, Long.MIN_VALUE, Long.MAX_VALUE, 0, 3, 11, 4 * 58 + 2, 1L << 33, (1L << 34) + 22};
        for (long header : sizes) {
            dueWrong(6, header, 1, 6);
        }
        dueWrong(6, 4 * 57 + 2, 5, TwoLevels.NONE);
        dueWrong(6, 20, 2, 6);
        dueWrong(6, 21, 2, 6);
        dueWrong(6, 23, 3, 6);
        dueWrong(0, 22, 2, 0);
        dueWrong(0, 23, 2, 0);
        dueWrong(0, 20, 2, 6);
        dueWrong(18, 20, 2, 18);
        dueWrong(5, 4, 4, 0);
        dueWrong(29, (1L << 32) + 5, 4, 24);
        dueWrong(63, 0, 4, 36);
        // links: of the first, of one in the middle, of the last
        dueWrong(26, 13, 5, TwoLevels.NONE);
        dueWrong(14, 0, 5, 24);
        dueWrong(2, 25, 5, 12);
        dueWrong(25, 7, 5, 24);
        dueWrong(25, 14, 5, 24);
        dueWrong(25, 25, 5, 24);
        dueWrong(25, 37, 5, 24);
        dueWrong(25, 1, 5, 24);
        dueWrong(25, (1L << 32) + 13, 5, 24);
        dueWrong(25, -1, 5, 24);
        dueWrong(25, Long.MIN_VALUE, 5, 24);
        dueWrong(25, Long.MAX_VALUE, 5, 24);
        dueWrong(25, 64, 5, 24);
        dueWrong(13, 25, 5, 12);
        dueWrong(1, 13, 5, 0);
        dueWrong(37, 37, 5, 36);
        dueWrong(38, 1, 5, TwoLevels.NONE);
        // lost: the lists end too early, and the first one by places is told
        dueWrong(25, 0, 6, 0);
        dueWrong(13, 0, 6, 0);
        // a word of a used body is nobody's
        dueWrong(8, -9, 0, TwoLevels.NONE);
        dueWrong(3, -9, 0, TwoLevels.NONE);
        dueWrong(6, 22, 0, TwoLevels.NONE);

        // lost is a block that its list does not have, though all links fit
        TwoLevels x = striped();
        due("spoil(12, 20)", x.spoil(12, 20), 1);
        due("spoil(18, 20)", x.spoil(18, 20), 1);
        due("check()", x.check(), 5);
        due("where()", x.where(), 24);
        due("spoil(25, 1)", x.spoil(25, 1), 1);
        due("check()", x.check(), 5);
        due("where()", x.where(), 24);
        due("spoil(2, 25)", x.spoil(2, 25), 1);
        dueSound(x);
        dueBlocks(x, 5, 1, 5, 0, 5, 0, 5, 0, 5, 1, 5, 0, 27, 1);
        dueList(x, 5, 25, 1);
        due("free(13)", x.free(13), 5);
        dueSound(x);

        // the pool may be sound again, but cut in another way
        x = pool(32);
        due("alloc(9)", x.alloc(9), 1);
        due("put(1, 4, 16)", x.put(1, 4, 16), 1);
        due("spoil(0, 16)", x.spoil(0, 16), 1);
        dueSound(x);
        dueBlocks(x, 4, 0, 4, 0, 21, 1);
        due("free(6)", x.free(6), 26);
        dueSound(x);
        due("size(1)", x.size(1), 4);

        // where() tells of the latest check() alone
        due("spoil(0, 0)", x.spoil(0, 0), 1);
        due("where()", x.where(), TwoLevels.NONE);
        due("check()", x.check(), 1);
        due("where()", x.where(), 0);
        due("check()", x.check(), 1);
        due("open(16)", x.open(16), 1);
        due("where()", x.where(), TwoLevels.NONE);
    }

    private static void classOf() {
        TwoLevels x = new TwoLevels();
        for (int n = 1; n <= 4095; n++) {
            due("classOf(" + n + ", false)", x.classOf(n, false), classByWords(n));
            int b = 3;
            while (2 << b <= n) {
                b++;
            }
            int rounded = n < 3 ? 3 : n < 8 ? n : n + (1 << (b - 3)) - 1;
            due("classOf(" + n + ", true)", x.classOf(n, true), classByWords(rounded));
        }
        due("classOf(2047, true)", x.classOf(2047, true), 72);
        due("classOf(1921, true)", x.classOf(1921, true), 72);
        due("classOf(1920, true)", x.classOf(1920, true), 71);
        due("classOf(4095, false)", x.classOf(4095, false), 79);
        int[] refused = {0, -1, 4096, Integer.MIN_VALUE, Integer.MAX_VALUE};
        for (int n : refused) {
            due("classOf(" + n + ", true)", x.classOf(n, true), TwoLevels.BAD);
            due("classOf(" + n + ", false)", x.classOf(n, false), TwoLevels.BAD);
        }
        due("spoil(0, 0)", x.spoil(0, 0), 1);
        due("classOf(9, true)", x.classOf(9, true), 9);
    }

    /** Goes through the classes by their widths: 8 of one size, then 8 of one, 8 of two, 8 of four .. */
    private static int classByWords(int n) {
        int width = 1;
        int from = 0;
        for (int c = 0; ; c++) {
            if (c >= 16 && c % 8 == 0) {
                width *= 2;
            }
            if (n < from + width) {
                return c;
            }
            from += width;
        }
    }

    private static void listed() {
        TwoLevels x = striped();
        dueList(x, 5, 25, 13, 1);
        dueList(x, 4);
        dueList(x, 23);
        dueList(x, 29 - 8 + 2);
        dueList(x, x.classOf(27, false), 37);
        due("listed(0, max)", x.listed(5, Integer.MAX_VALUE), TwoLevels.NONE);
        due("listed(71, 0)", x.listed(71, 0), TwoLevels.NONE);
        due("listed(-1, 0)", x.listed(-1, 0), TwoLevels.BAD);
        due("listed(72, 0)", x.listed(72, 0), TwoLevels.BAD);
        due("listed(5, -1)", x.listed(5, -1), TwoLevels.BAD);
        due("listed(min, min)", x.listed(Integer.MIN_VALUE, Integer.MIN_VALUE), TwoLevels.BAD);
        // one leaves from the middle
        due("alloc(5)", x.alloc(5), 25);
        due("free(25)", x.free(25), 5);
        due("free(7)", x.free(7), 17);
        dueList(x, 5, 25);
        dueList(x, 16, 1);
        due("spoil(25, 25)", x.spoil(25, 25), 1);
        due("listed(5, 0)", x.listed(5, 0), TwoLevels.SPOILT);
        due("listed(5, 99)", x.listed(5, 99), TwoLevels.SPOILT);
        due("listed(5, -1)", x.listed(5, -1), TwoLevels.BAD);
        due("listed(72, 0)", x.listed(72, 0), TwoLevels.BAD);
    }

    private static void bits() {
        TwoLevels x = striped();
        due("bits(0)", x.bits(0), 32);
        due("bits(1)", x.bits(1), 0);
        due("bits(2)", x.bits(2), 32);
        due("bits(9)", x.bits(9), 5);
        due("alloc(27)", x.alloc(27), TwoLevels.NONE);
        due("alloc(26)", x.alloc(26), 37);
        due("bits(2)", x.bits(2), 0);
        due("bits(9)", x.bits(9), 1);
        due("bits(10)", x.bits(10), TwoLevels.BAD);
        due("bits(-1)", x.bits(-1), TwoLevels.BAD);
        due("bits(min)", x.bits(Integer.MIN_VALUE), TwoLevels.BAD);
        due("bits(max)", x.bits(Integer.MAX_VALUE), TwoLevels.BAD);
        due("free(31)", x.free(31), 11);
        due("bits(1)", x.bits(1), 8);
        due("bits(9)", x.bits(9), 3);
        // the firsts are no words of the pool: bits are told while it is spoilt, too
        due("spoil(0, 0)", x.spoil(0, 0), 1);
        due("bits(1)", x.bits(1), 8);
        due("bits(9)", x.bits(9), 3);
        due("bits(10)", x.bits(10), TwoLevels.BAD);
    }

    private static void block() {
        TwoLevels x = striped();
        dueBlocks(x, 5, 1, 5, 0, 5, 1, 5, 0, 5, 1, 5, 0, 27, 1);
        due("block(7, 1)", x.block(7, 1), TwoLevels.NONE);
        due("block(max, 2)", x.block(Integer.MAX_VALUE, 2), TwoLevels.NONE);
        due("block(-1, 0)", x.block(-1, 0), TwoLevels.BAD);
        due("block(min, 0)", x.block(Integer.MIN_VALUE, 0), TwoLevels.BAD);
        due("block(0, 3)", x.block(0, 3), TwoLevels.BAD);
        due("block(0, -1)", x.block(0, -1), TwoLevels.BAD);
        due("block(99, 3)", x.block(99, 3), TwoLevels.BAD);
        due("spoil(0, 0)", x.spoil(0, 0), 1);
        due("block(0, 0)", x.block(0, 0), TwoLevels.SPOILT);
        due("block(99, 0)", x.block(99, 0), TwoLevels.SPOILT);
        due("block(0, 3)", x.block(0, 3), TwoLevels.BAD);
        due("block(-1, 0)", x.block(-1, 0), TwoLevels.BAD);

        manyBlocks();
    }

    /** Two blocks a call: from place 8 on used and free ones of three words by turns. */
    private static void manyBlocks() {
        TwoLevels x = pool(2048);
        due("alloc(6)", x.alloc(6), 1);
        for (int i = 1; i <= 254; i++) {
            due("aligned(3, 8)", x.aligned(3, 8), 8 * i);
        }
        due("aligned(3, 8)", x.aligned(3, 8), TwoLevels.NONE);
        due("count(6)", x.count(6), 255);
        due("count(7)", x.count(7), 254);
        due("block(508, 0)", x.block(508, 0), 2036);
        due("block(508, 1)", x.block(508, 1), 12);
        due("block(509, 0)", x.block(509, 0), TwoLevels.NONE);
        due("listed(3, 0)", x.listed(3, 0), 2028);
        due("listed(3, 252)", x.listed(3, 252), 12);
        due("listed(3, 253)", x.listed(3, 253), TwoLevels.NONE);
        due("size(2032)", x.size(2032), 3);
        due("spoil(12, 2028)", x.spoil(12, 2028), 1);
        due("check()", x.check(), 5);
        due("where()", x.where(), 11);
        due("spoil(12, 0)", x.spoil(12, 0), 1);
        dueSound(x);
        due("free(2032)", x.free(2032), 20);
        due("count(1)", x.count(1), 3);
        dueSound(x);
    }

    private static void found() {
        TwoLevels x = striped();
        due("found(1)", x.found(1), 25);
        due("found(3)", x.found(3), 25);
        due("found(5)", x.found(5), 25);
        due("found(6)", x.found(6), 37);
        due("found(26)", x.found(26), 37);
        due("found(27)", x.found(27), TwoLevels.NONE);
        due("found(2048)", x.found(2048), TwoLevels.NONE);
        due("found(2049)", x.found(2049), TwoLevels.BAD);
        due("found(0)", x.found(0), TwoLevels.BAD);
        due("found(-1)", x.found(-1), TwoLevels.BAD);
        due("found(min)", x.found(Integer.MIN_VALUE), TwoLevels.BAD);
        due("count(3)", x.count(3), 0);
        due("count(1)", x.count(1), 1);
        dueBlocks(x, 5, 1, 5, 0, 5, 1, 5, 0, 5, 1, 5, 0, 27, 1);
        due("spoil(63, 27)", x.spoil(63, 27), 1);
        due("found(5)", x.found(5), TwoLevels.SPOILT);
        due("found(2048)", x.found(2048), TwoLevels.SPOILT);
        due("found(2049)", x.found(2049), TwoLevels.BAD);

        // the same f goes before a lower s of a higher f
        x = pool(128);
        due("alloc(14)", x.alloc(14), 1);
        due("alloc(3)", x.alloc(3), 16);
        due("alloc(16)", x.alloc(16), 20);
        due("alloc(3)", x.alloc(3), 37);
        due("free(1)", x.free(1), 14);
        due("free(20)", x.free(20), 16);
        due("found(11)", x.found(11), 1);
        due("found(14)", x.found(14), 1);
        due("found(15)", x.found(15), 20);
        due("found(17)", x.found(17), 41);
    }

    private static void count() {
        TwoLevels x = striped();
        int[] want = {64, 1, 0, 0, 15, 42, 3, 4, 27};
        for (int what = 0; what < want.length; what++) {
            due("count(" + what + ")", x.count(what), want[what]);
        }
        int[] refused = {-1, 9, Integer.MIN_VALUE, Integer.MAX_VALUE};
        for (int what : refused) {
            due("count(" + what + ")", x.count(what), TwoLevels.BAD);
        }
        due("alloc(99)", x.alloc(99), TwoLevels.NONE);
        due("aligned(99, 2)", x.aligned(99, 2), TwoLevels.NONE);
        due("resize(7, 99)", x.resize(7, 99), TwoLevels.NONE);
        due("found(99)", x.found(99), TwoLevels.NONE);
        due("alloc(0)", x.alloc(0), TwoLevels.BAD);
        due("listed(0, 0)", x.listed(0, 0), TwoLevels.NONE);
        due("count(1)", x.count(1), 1);
        due("count(3)", x.count(3), 3);
        due("spoil(0, 0)", x.spoil(0, 0), 1);
        int[] spoilt = {64, 1, 1, 3, -3, -3, -3, -3, -3, -2};
        for (int what = 0; what < spoilt.length; what++) {
            due("count(" + what + ")", x.count(what), spoilt[what]);
        }

        // no free block
        x = pool(16);
        due("alloc(12)", x.alloc(12), 1);
        int[] full = {16, 1, 0, 0, 15, 0, 1, 0, 0};
        for (int what = 0; what < full.length; what++) {
            due("count(" + what + ")", x.count(what), full[what]);
        }
    }

    private static void run(int number) {
        switch (number) {
            case 1: newObject(); break;
            case 2: open(); break;
            case 3: alloc(); break;
            case 4: aligned(); break;
            case 5: free(); break;
            case 6: resize(); break;
            case 7: grow(); break;
            case 8: size(); break;
            case 9: put(); break;
            case 10: wordAndSpoil(); break;
            case 12: checkAndWhere(); break;
            case 14: classOf(); break;
            case 15: listed(); break;
            case 16: bits(); break;
            case 17: block(); break;
            case 18: found(); break;
            case 19: count(); break;
            default: break;
        }
    }

    public static void main(String[] args) {
        for (int number = 1; number <= 19; number++) {
            promise = "promise " + number;
            run(number);
        }
        System.out.println(wrong == 0 ? "every promise is kept" : wrong + " answers are not as due");
        if (wrong != 0) {
            System.exit(1);
        }
    }
}
