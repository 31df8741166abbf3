import java.util.LinkedHashMap;
import java.util.Map;
import java.util.function.Supplier;
import java.util.function.ToLongFunction;

/**
 * Every refused call in several states, each made anew, with all that can be
 * asked before and after it; where two refusals fit, the first is due.
 */
public final class RefusalTest {
    private static final int NONE = Probe.NONE, BAD = Probe.BAD, SPOILT = Probe.SPOILT, FULL = Probe.FULL;
    private static final int LEAST = Probe.LEAST, MOST = Probe.MOST;
    private static final int[] NO_WISHES = {LEAST, -1, 0, 2049, MOST};
    private static final int[] NO_ALIGNMENTS = {LEAST, -64, -2, -1, 0, 1, 3, 6, 63, 65, 128, MOST};

    /** What is used and free in a state, by the document; the calls that made it are in the probe. */
    private static final class State {
        final Supplier<Probe> made;
        final int words;
        final int usedPlace;
        final int usedBody;
        final boolean spoilt;

        State(Supplier<Probe> made, int words, int usedPlace, int usedBody, boolean spoilt) {
            this.made = made;
            this.words = words;
            this.usedPlace = usedPlace;
            this.usedBody = usedBody;
            this.spoilt = spoilt;
        }
    }

    private static Map<String, State> sound() {
        Map<String, State> states = new LinkedHashMap<>();
        states.put("a new object", new State(Probe::new, 64, 0, 0, false));
        states.put("the least pool, empty", new State(() -> Probe.of(16), 16, 0, 0, false));
        states.put("full", new State(() -> Probe.of(16).alloc(15, 1).put(1, 0, 7, 1), 16, 1, 15, false));
        states.put("one short of full", new State(() -> Probe.cut(11, -3), 16, 1, 11, false));
        states.put("striped", new State(RefusalTest::striped, 64, 7, 5, false));
        states.put("refused, checked and grown before", new State(RefusalTest::lived, 60, 1, 5, false));
        states.put("the greatest", new State(() -> Probe.of(2048).alloc(9, 1), 2048, 1, 9, false));
        return states;
    }

    private static Map<String, State> spoilt() {
        Map<String, State> states = new LinkedHashMap<>();
        states.put("spoilt, but sound", new State(() -> striped().spoil(7, 0, 1), 64, 7, 5, true));
        states.put("spoilt in a header", new State(() -> striped().spoil(0, -1, 1), 64, 7, 5, true));
        states.put("spoilt everywhere it matters", new State(RefusalTest::ruined, 64, 7, 5, true));
        states.put("spoilt and checked", new State(() -> striped().spoil(12, 3, 1).wrong(1, 12), 64, 7, 5, true));
        states.put("spoilt and full", new State(() -> Probe.of(16).alloc(15, 1).spoil(0, 60, 1), 16, 1, 15, true));
        states.put("spoilt, the greatest",
            new State(() -> Probe.of(2048).alloc(9, 1).spoil(2047, 0, 1), 2048, 1, 9, true));
        return states;
    }

    /** Used blocks at 7, 19 and 31, free ones at 1, 13, 25 and 37. */
    private static Probe striped() {
        return Probe.cut(-5, 5, -5, 5, -5, 5, -27);
    }

    private static Probe lived() {
        Probe p = Probe.cut(5, -3, 9, -12).alloc(13, NONE).aligned(9, 8, NONE).put(1, 0, -9, 1).spoil(1, -8, 1);
        return p.check(0).spoil(0, 0, 1).wrong(1, 0).spoil(0, 20, 1).sound().grow(27, 60).resize(11, 10, 11)
            .links(2).count(3, 2).blocks(5, -3, 10, -38);
    }

    private static Probe ruined() {
        long[] odd = {Long.MIN_VALUE, Long.MAX_VALUE, -1, 0, 1L << 40, 3, 64, 63};
        Probe p = striped();
        for (int w = 0; w < 64; w++) {
            p.spoil(w, odd[w % odd.length], 1);
        }
        return p;
    }

    private static void refused(State s, String call, ToLongFunction<TwoLevels> asked, int due) {
        Probe.refused(s.made, call, asked, due);
    }

    /** BAD in every state, spoilt or not. */
    private static void alwaysBad(State s) {
        for (int words : new int[] {LEAST, -1, 0, 15, 2049, MOST}) {
            refused(s, "open(" + words + ")", x -> x.open(words), BAD);
        }
        for (int n : NO_WISHES) {
            refused(s, "alloc(" + n + ")", x -> x.alloc(n), BAD);
            refused(s, "found(" + n + ")", x -> x.found(n), BAD);
            refused(s, "aligned(" + n + ", 2)", x -> x.aligned(n, 2), BAD);
            refused(s, "aligned(" + n + ", 64)", x -> x.aligned(n, 64), BAD);
            refused(s, "aligned(" + n + ", 3)", x -> x.aligned(n, 3), BAD);
        }
        for (int a : NO_ALIGNMENTS) {
            refused(s, "aligned(3, " + a + ")", x -> x.aligned(3, a), BAD);
            refused(s, "aligned(2048, " + a + ")", x -> x.aligned(2048, a), BAD);
        }
        for (int n : new int[] {LEAST, -4, -1, 0, 3, 1025, MOST}) {
            refused(s, "grow(" + n + ")", x -> x.grow(n), BAD);
        }
        for (int w : new int[] {LEAST, -1, s.words, s.words + 1, MOST}) {
            refused(s, "spoil(" + w + ", 5)", x -> x.spoil(w, 5), BAD);
            refused(s, "word(" + w + ")", x -> x.word(w), 0);
        }
        alwaysBadPlaces(s);
        alwaysBadQuestions(s);
    }

    private static void alwaysBadPlaces(State s) {
        for (int place : new int[] {LEAST, LEAST + 1, -1, 0, s.words, s.words + 1, MOST}) {
            refused(s, "free(" + place + ")", x -> x.free(place), BAD);
            refused(s, "size(" + place + ")", x -> x.size(place), BAD);
            for (int n : new int[] {LEAST, -1, 0, 1, 5, 2048, 2049, MOST}) {
                refused(s, "resize(" + place + ", " + n + ")", x -> x.resize(place, n), BAD);
            }
            for (int i : new int[] {LEAST, -1, 0, 2, MOST}) {
                refused(s, "put(" + place + ", " + i + ", 5)", x -> x.put(place, i, 5), BAD);
            }
        }
    }

    private static void alwaysBadQuestions(State s) {
        for (int n : new int[] {LEAST, -1, 0, 4096, MOST}) {
            refused(s, "classOf(" + n + ", false)", x -> x.classOf(n, false), BAD);
            refused(s, "classOf(" + n + ", true)", x -> x.classOf(n, true), BAD);
        }
        for (int c : new int[] {LEAST, -1, 72, 80, MOST}) {
            for (int i : new int[] {LEAST, -1, 0, 1, MOST}) {
                refused(s, "listed(" + c + ", " + i + ")", x -> x.listed(c, i), BAD);
            }
        }
        for (int i : new int[] {LEAST, -1}) {
            refused(s, "listed(0, " + i + ")", x -> x.listed(0, i), BAD);
            refused(s, "listed(71, " + i + ")", x -> x.listed(71, i), BAD);
            for (int what = 0; what <= 2; what++) {
                int asked = what;
                refused(s, "block(" + i + ", " + what + ")", x -> x.block(i, asked), BAD);
            }
        }
        for (int what : new int[] {LEAST, -1, 3, MOST}) {
            for (int i : new int[] {LEAST, -1, 0, 1, MOST}) {
                refused(s, "block(" + i + ", " + what + ")", x -> x.block(i, what), BAD);
            }
        }
        for (int f : new int[] {LEAST, -1, 10, MOST}) {
            refused(s, "bits(" + f + ")", x -> x.bits(f), BAD);
        }
        for (int what : new int[] {LEAST, -1, 9, MOST}) {
            refused(s, "count(" + what + ")", x -> x.count(what), BAD);
        }
    }

    /** Places in the pool that are no places of used blocks, and what a used one has not. */
    private static void badWhileSound(State s, int... usedPlaces) {
        for (int place = 1; place < s.words; place += place < 70 || place > s.words - 10 ? 1 : 50) {
            int asked = place;
            boolean used = false;
            for (int each : usedPlaces) {
                used |= each == place;
            }
            if (!used) {
                refused(s, "free(" + place + ")", x -> x.free(asked), BAD);
                refused(s, "size(" + place + ")", x -> x.size(asked), BAD);
                refused(s, "put(" + place + ", 0, 5)", x -> x.put(asked, 0, 5), BAD);
                refused(s, "put(" + place + ", -1, 5)", x -> x.put(asked, -1, 5), BAD);
                refused(s, "resize(" + place + ", 3)", x -> x.resize(asked, 3), BAD);
                // it is no PLACE, and nothing is FOUND
                refused(s, "resize(" + place + ", 2048)", x -> x.resize(asked, 2048), BAD);
                refused(s, "resize(" + place + ", 0)", x -> x.resize(asked, 0), BAD);
            }
        }
        for (int place : usedPlaces) {
            for (int n : NO_WISHES) {
                refused(s, "resize(" + place + ", " + n + ")", x -> x.resize(place, n), BAD);
            }
        }
        for (int i : new int[] {LEAST, -1, s.usedBody, s.usedBody + 1, 2048, MOST}) {
            if (s.usedPlace != 0) {
                refused(s, "put(" + s.usedPlace + ", " + i + ", 5)", x -> x.put(s.usedPlace, i, 5), BAD);
            }
        }
    }

    private static void noneWhileSound(State s, int greatestFound) {
        for (int n : new int[] {greatestFound + 1, 1921, 2047, 2048}) {
            Probe.refusedAndCounted(s.made, "alloc(" + n + ")", x -> x.alloc(n));
            refused(s, "found(" + n + ")", x -> x.found(n), NONE);
            for (int a = 2; a <= 64; a *= 2) {
                int by = a;
                Probe.refusedAndCounted(s.made, "aligned(" + n + ", " + a + ")", x -> x.aligned(n, by));
            }
        }
        if (s.usedPlace != 0) {
            Probe.refusedAndCounted(s.made, "resize(.., 2048)", x -> x.resize(s.usedPlace, 2048));
        }
        for (int i : new int[] {511, 512, 2048, MOST}) {
            refused(s, "listed(5, " + i + ")", x -> x.listed(5, i), NONE);
            refused(s, "listed(71, " + i + ")", x -> x.listed(71, i), NONE);
            for (int what = 0; what <= 2; what++) {
                int asked = what;
                refused(s, "block(" + i + ", " + what + ")", x -> x.block(i, asked), NONE);
            }
        }
        refused(s, "listed(0, 0)", x -> x.listed(0, 0), NONE);
    }

    /** Every call that looks at blocks, whatever else would be told of it but BAD. */
    private static void whileSpoilt(State s) {
        for (int n : new int[] {1, 3, 1920, 2048}) {
            refused(s, "alloc(" + n + ")", x -> x.alloc(n), SPOILT);
            refused(s, "found(" + n + ")", x -> x.found(n), SPOILT);
            refused(s, "aligned(" + n + ", 2)", x -> x.aligned(n, 2), SPOILT);
            refused(s, "aligned(" + n + ", 64)", x -> x.aligned(n, 64), SPOILT);
        }
        for (int n : new int[] {4, 1000, 1024}) {
            refused(s, "grow(" + n + ")", x -> x.grow(n), SPOILT);
        }
        for (int i : new int[] {0, 1, 511, MOST}) {
            refused(s, "listed(0, " + i + ")", x -> x.listed(0, i), SPOILT);
            refused(s, "listed(71, " + i + ")", x -> x.listed(71, i), SPOILT);
            for (int what = 0; what <= 2; what++) {
                int asked = what;
                refused(s, "block(" + i + ", " + what + ")", x -> x.block(i, asked), SPOILT);
            }
        }
        for (int what = 4; what <= 8; what++) {
            int asked = what;
            refused(s, "count(" + what + ")", x -> x.count(asked), SPOILT);
        }
        placesWhileSpoilt(s);
    }

    private static void placesWhileSpoilt(State s) {
        for (int place = 1; place < s.words; place += place < 70 || place > s.words - 10 ? 1 : 50) {
            int asked = place;
            refused(s, "free(" + place + ")", x -> x.free(asked), SPOILT);
            refused(s, "size(" + place + ")", x -> x.size(asked), SPOILT);
            for (int n : new int[] {LEAST, 0, 1, 2048, 2049, MOST}) {
                refused(s, "resize(" + place + ", " + n + ")", x -> x.resize(asked, n), SPOILT);
            }
            for (int i : new int[] {LEAST, -1, 0, 2048, MOST}) {
                refused(s, "put(" + place + ", " + i + ", 5)", x -> x.put(asked, i, 5), SPOILT);
            }
        }
    }

    private static void answeredWhileSpoilt() {
        Report.says("SPOILT is THE POOL once a WORD of it was laid by spoil(), till check() tells 0.");
        Probe p = striped().count(2, 0).spoil(7, 0, 1).count(2, 1).alloc(3, SPOILT).check(0).count(2, 0).alloc(3, 25);
        p = striped().spoil(0, 0, 1).wrong(1, 0).alloc(3, SPOILT).check(1).alloc(3, SPOILT).spoil(0, 21, 1);
        p.count(2, 1).alloc(3, SPOILT).check(0).count(2, 0).alloc(3, 25);
        // what was refused before is not done later
        p = striped().spoil(7, 0, 1).free(7, SPOILT).put(7, 0, 9, SPOILT).resize(7, 3, SPOILT).grow(4, SPOILT).check(0);
        p.blocks(-5, 5, -5, 5, -5, 5, -27).word(7, 0).count(0, 64);
        // open() ends it, too
        striped().spoil(0, 0, 1).open(16, 1).count(2, 0).blocks(-15).sound();
        striped().spoil(0, 0, 1).open(15, BAD).count(2, 1).block(0, 0, SPOILT);
        // put() spoils nothing, whatever it lays
        striped().put(7, 0, -1, 1).put(7, 4, Long.MIN_VALUE, 1).count(2, 0).sound();
        // a call of spoil() that is refused doesn't spoil
        striped().spoil(64, 0, BAD).spoil(-1, 0, BAD).count(2, 0).alloc(3, 25);

        Report.says("0 WORDS of THE POOL, 1 LINKS, 2 whether it is SPOILT (1, 0)");
        p = striped().count(0, 64).links(1).count(2, 0).alloc(28, NONE).spoil(0, 0, 1);
        p.count(0, 64).links(1).count(2, 1).count(3, 1).alloc(28, SPOILT).count(3, 1);

        Report.says("of 4 to 8 SPOILT. BAD.");
        striped().spoil(7, 0, 1).count(3, 0).count(4, SPOILT).count(8, SPOILT).count(9, BAD).check(0).count(4, 15)
            .count(5, 42).count(6, 3).count(7, 4).count(8, 27);

        Report.says("(What is first in each LIST is no WORD of THE POOL, and cannot be spoilt.)");
        p = ruined().bits(0, 32).bits(1, 0).bits(2, 32).bits(9, 5).word(0, Long.MIN_VALUE).word(63, 63).where(NONE);
        p.classOf(9, true, 9).classOf(4095, false, 79).count(0, 64).links(1).count(2, 1).count(3, 0).spoil(3, 4, 1);
        p.word(3, 4).check(1).where(0).open(64, 1).bits(0, 0).bits(3, 128).bits(9, 8);
    }

    public static void main(String[] args) {
        Map<String, State> sound = sound();
        Map<String, State> spoilt = spoilt();
        for (Map.Entry<String, State> each : sound.entrySet()) {
            Report.says("Refused, and nothing changes: BAD (no such PLACE of a USED BLOCK, WORD, CLASS, number) / "
                + each.getKey());
            alwaysBad(each.getValue());
        }
        badWhileSound(sound.get("a new object"));
        badWhileSound(sound.get("the least pool, empty"));
        badWhileSound(sound.get("full"), 1);
        badWhileSound(sound.get("one short of full"), 1);
        badWhileSound(sound.get("striped"), 7, 19, 31);
        badWhileSound(sound.get("refused, checked and grown before"), 1, 11);
        badWhileSound(sound.get("the greatest"), 1);

        Report.says("NONE (nothing is FOUND)");
        noneWhileSound(sound.get("a new object"), 60);
        noneWhileSound(sound.get("the least pool, empty"), 15);
        noneWhileSound(sound.get("full"), 0);
        noneWhileSound(sound.get("one short of full"), 3);
        noneWhileSound(sound.get("striped"), 26);
        noneWhileSound(sound.get("refused, checked and grown before"), 36);
        noneWhileSound(sound.get("the greatest"), 1920);

        Report.says("FULL: the first of these that fits.");
        for (int n : new int[] {4, 5, 1023, 1024}) {
            refused(sound.get("the greatest"), "grow(" + n + ")", x -> x.grow(n), FULL);
        }
        Probe.refused(() -> Probe.of(2045).alloc(9, 1), "grow(4)", x -> x.grow(4), FULL);
        Probe.refused(() -> Probe.of(1025).alloc(9, 1), "grow(1024)", x -> x.grow(1024), FULL);

        for (Map.Entry<String, State> each : spoilt.entrySet()) {
            Report.says("while THE POOL is SPOILT a PLACE of 1 .. its WORDS less 1 is none of these, "
                + "nor what is asked of it / " + each.getKey());
            alwaysBad(each.getValue());
            whileSpoilt(each.getValue());
        }
        answeredWhileSpoilt();
        Report.end();
    }
}
