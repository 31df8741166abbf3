import java.util.Set;
import java.util.TreeSet;
import java.util.function.Supplier;
import java.util.function.ToLongFunction;

/**
 * A TwoLevels whose answers are compared with those that are due. It counts its
 * calls, since nothing is promised behind the 512th. The refusals are written
 * out, so that a constant that is not as due is noticed.
 */
final class Probe {
    static final int NONE = -1, BAD = -2, SPOILT = -3, FULL = -4;
    static final int LEAST = Integer.MIN_VALUE, MOST = Integer.MAX_VALUE;

    private static final int MOST_CALLS = 512;
    /** Of a pool that has more words than these, the state holds only the words that matter. */
    private static final int SMALL_POOL = 100;
    private static final int SOME_WORDS = 24;
    private static final int MOST_TOLD = 200;

    private final TwoLevels x = new TwoLevels();
    private final StringBuilder told = new StringBuilder();
    private int calls = 0;

    static Probe of(int words) {
        return new Probe().open(words, 1);
    }

    /** A pool of blocks of so many words, below 0 for free ones, which are freed from the first one on. */
    static Probe cut(int... bodies) {
        int words = 0;
        for (int body : bodies) {
            words += Math.abs(body) + 1;
        }
        Probe p = of(words);
        int place = 1;
        for (int body : bodies) {
            if (body > 0 || place - body < words) {
                p.alloc(Math.abs(body), place);
            }
            place += Math.abs(body) + 1;
        }
        place = 1;
        for (int body : bodies) {
            if (body < 0 && place - body < words) {
                p.free(place, -body);
            }
            place += Math.abs(body) + 1;
        }
        return p.blocks(bodies);
    }

    private TwoLevels called() {
        calls++;
        if (calls == MOST_CALLS + 1) {
            Report.fault("the test itself has more than 512 calls: " + told);
        }
        return x;
    }

    private static boolean isQuestion(String call) {
        return call.matches("(size|word|where|classOf|listed|bits|block|found|count)\\(.*");
    }

    /** The calls that made the state, as far as they can be read. */
    private String latest() {
        int from = told.length() - MOST_TOLD;
        return from <= 0 ? told.toString() : ".. " + told.substring(told.indexOf(" ", from) + 1);
    }

    private Probe due(String call, long got, long want) {
        Report.due(latest() + call, got, want);
        if (!isQuestion(call)) {
            told.append(call).append(", ");
        }
        return this;
    }

    Probe open(int words, int due) {
        return due("open(" + words + ")", called().open(words), due);
    }

    Probe alloc(int n, int due) {
        return due("alloc(" + n + ")", called().alloc(n), due);
    }

    Probe aligned(int n, int a, int due) {
        return due("aligned(" + n + ", " + a + ")", called().aligned(n, a), due);
    }

    Probe free(int place, int due) {
        return due("free(" + place + ")", called().free(place), due);
    }

    Probe resize(int place, int n, int due) {
        return due("resize(" + place + ", " + n + ")", called().resize(place, n), due);
    }

    Probe grow(int n, int due) {
        return due("grow(" + n + ")", called().grow(n), due);
    }

    Probe size(int place, int due) {
        return due("size(" + place + ")", called().size(place), due);
    }

    Probe put(int place, int i, long v, int due) {
        return due("put(" + place + ", " + i + ", " + v + ")", called().put(place, i, v), due);
    }

    Probe word(int w, long due) {
        return due("word(" + w + ")", called().word(w), due);
    }

    Probe spoil(int w, long v, int due) {
        return due("spoil(" + w + ", " + v + ")", called().spoil(w, v), due);
    }

    Probe check(int due) {
        return due("check()", called().check(), due);
    }

    Probe where(int due) {
        return due("where()", called().where(), due);
    }

    Probe classOf(int n, boolean wish, int due) {
        return due("classOf(" + n + ", " + wish + ")", called().classOf(n, wish), due);
    }

    Probe listed(int c, int i, int due) {
        return due("listed(" + c + ", " + i + ")", called().listed(c, i), due);
    }

    Probe bits(int f, int due) {
        return due("bits(" + f + ")", called().bits(f), due);
    }

    Probe block(int i, int what, int due) {
        return due("block(" + i + ", " + what + ")", called().block(i, what), due);
    }

    Probe found(int n, int due) {
        return due("found(" + n + ")", called().found(n), due);
    }

    Probe count(int what, int due) {
        return due("count(" + what + ")", called().count(what), due);
    }

    Probe links(int due) {
        return count(1, due);
    }

    /** All words of the pool from there on, as far as they are told. */
    Probe words(int from, long... due) {
        for (int i = 0; i < due.length; i++) {
            word(from + i, due[i]);
        }
        return this;
    }

    /** All blocks, by their words, below 0 for free ones. */
    Probe blocks(int... bodies) {
        int place = 1;
        for (int i = 0; i < bodies.length; i++) {
            block(i, 0, place);
            block(i, 1, Math.abs(bodies[i]));
            block(i, 2, bodies[i] < 0 ? 1 : 0);
            place += Math.abs(bodies[i]) + 1;
        }
        count(0, place - 1);
        return block(bodies.length, 0, NONE);
    }

    /** The whole list of a class. */
    Probe list(int c, int... places) {
        for (int i = 0; i < places.length; i++) {
            listed(c, i, places[i]);
        }
        return listed(c, places.length, NONE);
    }

    Probe sound() {
        return check(0).where(NONE).count(2, 0);
    }

    Probe wrong(int kind, int at) {
        return check(kind).where(at).count(2, 1);
    }

    /** A call that is refused, which changes nothing but, of three calls, how many were refused with NONE. */
    private Probe refuses(String call, ToLongFunction<TwoLevels> asked, long due, boolean counted) {
        int refused = called().count(3);
        String before = state(refused);
        due(call, asked.applyAsLong(called()), due);
        Report.same(call, state(refused + (counted ? 1 : 0)), before);
        return this;
    }

    /** Makes the state anew and asks it one call that is refused. */
    static void refused(Supplier<Probe> state, String call, ToLongFunction<TwoLevels> asked, long due) {
        state.get().refuses(call, asked, due, false);
    }

    static void refusedAndCounted(Supplier<Probe> state, String call, ToLongFunction<TwoLevels> asked) {
        state.get().refuses(call, asked, NONE, true);
    }

    /** All that can be asked but check(), which may change what where() tells. */
    private String state(int refusalsDue) {
        StringBuilder s = new StringBuilder();
        for (int what = 0; what <= 8; what++) {
            s.append(what == 3 ? called().count(3) - refusalsDue : called().count(what)).append(' ');
        }
        s.append("where ").append(called().where()).append(" bits");
        int[] bits = new int[10];
        for (int f = 0; f <= 9; f++) {
            bits[f] = called().bits(f);
            s.append(' ').append(bits[f]);
        }
        Set<Integer> near = new TreeSet<>();
        if (called().count(2) == 0) {
            s.append(blockText(near)).append(listText(bits));
        }
        return s.append(wordText(near)).toString();
    }

    private String blockText(Set<Integer> near) {
        StringBuilder s = new StringBuilder(" blocks");
        for (int i = 0; called().block(i, 0) != NONE; i++) {
            int place = called().block(i, 0);
            s.append(' ').append(place).append('/').append(called().block(i, 1));
            s.append('/').append(called().block(i, 2));
            for (int w = place - 2; w <= place + 1; w++) {
                near.add(w);
            }
        }
        return s.toString();
    }

    private String listText(int[] bits) {
        StringBuilder s = new StringBuilder(" lists");
        for (int c = 0; c < 72; c++) {
            if ((bits[c / 8] >> c % 8 & 1) != 0) {
                s.append(' ').append(c).append(':');
                for (int i = 0; called().listed(c, i) != NONE; i++) {
                    s.append(called().listed(c, i)).append(',');
                }
            }
        }
        return s.toString();
    }

    private String wordText(Set<Integer> near) {
        StringBuilder s = new StringBuilder(" words");
        int end = called().count(0);
        for (int w = -1; w <= end; w++) {
            if (end <= SMALL_POOL || w < SOME_WORDS || w > end - SOME_WORDS || near.contains(w)) {
                s.append(' ').append(called().word(w));
            }
        }
        return s.toString();
    }
}
