import java.util.ArrayList;
import java.util.List;
import java.util.Random;

/**
 * Runs of calls, drawn with fixed seeds, on a TwoLevels and on a plain model of
 * the document. The model keeps blocks and lists as Java lists and writes
 * headers and links anew from them after every step; no object is called more
 * than 512 times.
 */
public final class ModelTest {
    private static final int RUNS = 6000;
    private static final int MOST_CALLS = 512;

    private static final class Block {
        final int header;
        int body;
        boolean free;

        Block(int header, int body, boolean free) {
            this.header = header;
            this.body = body;
            this.free = free;
        }

        int place() {
            return header + 1;
        }
    }

    private static final class Model {
        long[] words;
        final List<Block> blocks = new ArrayList<>();
        final List<List<Block>> lists = new ArrayList<>();
        final int[] firsts = new int[72];
        boolean spoilt;
        int links, refusals, wrongAt;

        Model() {
            open(64);
        }

        static int classOf(int n) {
            if (n < 8) {
                return n;
            }
            int b = 3;
            while (1 << (b + 1) <= n) {
                b++;
            }
            return 8 * (b - 2) + n / (1 << (b - 3)) - 8;
        }

        static int classOfWish(int n) {
            int m = Math.max(3, n);
            int b = 3;
            while (1 << (b + 1) <= m) {
                b++;
            }
            return m < 8 ? m : classOf(m + (1 << (b - 3)) - 1);
        }

        int open(int n) {
            if (n < 16 || n > 2048) {
                return -2;
            }
            words = new long[n];
            blocks.clear();
            lists.clear();
            for (int c = 0; c < 72; c++) {
                lists.add(new ArrayList<>());
            }
            Block all = new Block(0, n - 1, true);
            blocks.add(all);
            come(all);
            render();
            spoilt = false;
            links = 0;
            refusals = 0;
            wrongAt = -1;
            return 1;
        }

        void come(Block b) {
            b.free = true;
            lists.get(classOf(b.body)).add(0, b);
            links++;
            renderLinks();
        }

        void leave(Block b) {
            lists.get(classOf(b.body)).remove(b);
            links++;
            renderLinks();
        }

        void renderLinks() {
            for (int c = 0; c < 72; c++) {
                List<Block> list = lists.get(c);
                firsts[c] = list.isEmpty() ? 0 : list.get(0).place();
                for (int i = 0; i < list.size(); i++) {
                    words[list.get(i).place()] = i + 1 < list.size() ? list.get(i + 1).place() : 0;
                    words[list.get(i).place() + 1] = i > 0 ? list.get(i - 1).place() : 0;
                }
            }
        }

        void render() {
            boolean aheadFree = false;
            for (Block b : blocks) {
                words[b.header] = 4L * b.body + (aheadFree ? 2 : 0) + (b.free ? 1 : 0);
                if (b.free) {
                    words[b.header + b.body] = b.body;
                }
                aheadFree = b.free;
            }
            renderLinks();
        }

        Block foundFor(int wish) {
            for (int c = classOfWish(wish); c < 72; c++) {
                if (!lists.get(c).isEmpty()) {
                    return lists.get(c).get(0);
                }
            }
            return null;
        }

        Block after(Block b) {
            int i = blocks.indexOf(b);
            return i + 1 < blocks.size() ? blocks.get(i + 1) : null;
        }

        void cut(Block b, int n) {
            int left = b.body - n;
            if (left >= 4) {
                Block rest = new Block(b.header + 1 + n, left - 1, false);
                Block behind = after(b);
                b.body = n;
                blocks.add(blocks.indexOf(b) + 1, rest);
                if (behind != null && behind.free) {
                    leave(behind);
                    rest.body += 1 + behind.body;
                    blocks.remove(behind);
                }
                come(rest);
            }
            render();
        }

        void freed(Block b) {
            Block behind = after(b);
            int i = blocks.indexOf(b);
            Block ahead = i > 0 ? blocks.get(i - 1) : null;
            Block whole = b;
            if (behind != null && behind.free) {
                leave(behind);
                blocks.remove(behind);
                whole = new Block(b.header, b.body + 1 + behind.body, false);
                blocks.set(i, whole);
            }
            if (ahead != null && ahead.free) {
                leave(ahead);
                blocks.remove(whole);
                ahead.body += 1 + whole.body;
                whole = ahead;
            }
            come(whole);
            render();
        }

        Block used(int place) {
            for (Block b : blocks) {
                if (b.place() == place && !b.free) {
                    return b;
                }
            }
            return null;
        }

        int refusal(int place) {
            if (place < 1 || place > words.length - 1) {
                return -2;
            }
            return spoilt ? -3 : used(place) == null ? -2 : 0;
        }

        int alloc(int n) {
            if (n < 1 || n > 2048) {
                return -2;
            }
            if (spoilt) {
                return -3;
            }
            Block b = foundFor(n);
            if (b == null) {
                refusals++;
                return -1;
            }
            links = 0;
            leave(b);
            b.free = false;
            cut(b, Math.max(3, n));
            return b.place();
        }

        int aligned(int n, int a) {
            boolean fits = false;
            for (int power = 2; power <= 64; power *= 2) {
                fits |= a == power;
            }
            if (!fits || n < 1 || n > 2048) {
                return -2;
            }
            if (spoilt) {
                return -3;
            }
            Block b = foundFor(Math.max(3, n) + a + 3);
            if (b == null) {
                refusals++;
                return -1;
            }
            links = 0;
            leave(b);
            b.free = false;
            int q = b.place();
            while (q % a != 0 || q != b.place() && q < b.place() + 4) {
                q++;
            }
            Block at = b;
            if (q != b.place()) {
                at = new Block(q - 1, b.body - (q - b.place()), false);
                b.body = q - b.place() - 1;
                blocks.add(blocks.indexOf(b) + 1, at);
                come(b);
            }
            cut(at, Math.max(3, n));
            return q;
        }

        int free(int place) {
            int refusal = refusal(place);
            if (refusal != 0) {
                return refusal;
            }
            links = 0;
            freed(used(place));
            for (Block b : blocks) {
                if (b.header < place && place <= b.header + b.body) {
                    return b.body;
                }
            }
            return 0;
        }

        int resize(int place, int n) {
            int refusal = refusal(place);
            if (refusal != 0) {
                return refusal;
            }
            if (n < 1 || n > 2048) {
                return -2;
            }
            int wish = Math.max(3, n);
            Block b = used(place);
            Block behind = after(b);
            if (wish <= b.body) {
                links = 0;
                cut(b, wish);
                return place;
            }
            if (behind != null && behind.free && b.body + 1 + behind.body >= wish) {
                links = 0;
                leave(behind);
                blocks.remove(behind);
                b.body += 1 + behind.body;
                cut(b, wish);
                return place;
            }
            long[] was = new long[b.body];
            System.arraycopy(words, place, was, 0, b.body);
            int to = alloc(n);
            if (to < 0) {
                return to;
            }
            System.arraycopy(was, 0, words, to, was.length);
            freed(b);
            return to;
        }

        int grow(int n) {
            if (n < 4 || n > 1024) {
                return -2;
            }
            if (spoilt) {
                return -3;
            }
            if (words.length + n > 2048) {
                return -4;
            }
            Block b = new Block(words.length, n - 1, false);
            long[] more = new long[words.length + n];
            System.arraycopy(words, 0, more, 0, words.length);
            words = more;
            blocks.add(b);
            render();
            links = 0;
            freed(b);
            return words.length;
        }

        int put(int place, int i, long v) {
            int refusal = refusal(place);
            if (refusal != 0) {
                return refusal;
            }
            if (i < 0 || i >= used(place).body) {
                return -2;
            }
            words[place + i] = v;
            return 1;
        }

        int spoil(int w, long v) {
            if (w < 0 || w >= words.length) {
                return -2;
            }
            words[w] = v;
            spoilt = true;
            return 1;
        }

        int tell(int wrong, int at) {
            wrongAt = at;
            return wrong;
        }

        int check() {
            List<Block> read = new ArrayList<>();
            int w = 0;
            boolean aheadFree = false;
            while (w < words.length) {
                long h = words[w];
                long n = h >> 2;
                if (h < 0 || n < 3 || n > words.length || w + 1 + n > words.length) {
                    return tell(1, w);
                }
                boolean free = h % 2 == 1;
                boolean told = h / 2 % 2 == 1;
                if (told != aheadFree) {
                    return tell(2, w);
                }
                if (free && aheadFree) {
                    return tell(3, w);
                }
                if (free && words[(int) (w + n)] != n) {
                    return tell(4, w);
                }
                read.add(new Block(w, (int) n, free));
                aheadFree = free;
                w += 1 + n;
            }
            List<Block> met = new ArrayList<>();
            List<List<Block>> readLists = new ArrayList<>();
            for (int c = 0; c < 72; c++) {
                List<Block> list = new ArrayList<>();
                long next = firsts[c];
                long ahead = 0;
                while (next != 0) {
                    Block b = null;
                    for (Block each : read) {
                        if (each.place() == next) {
                            b = each;
                        }
                    }
                    if (b == null || !b.free || classOf(b.body) != c || words[b.place() + 1] != ahead
                        || met.contains(b)) {
                        return tell(5, ahead == 0 ? -1 : (int) ahead - 1);
                    }
                    met.add(b);
                    list.add(b);
                    ahead = next;
                    next = words[b.place()];
                }
                readLists.add(list);
            }
            for (Block b : read) {
                if (b.free && !met.contains(b)) {
                    return tell(6, b.header);
                }
            }
            blocks.clear();
            blocks.addAll(read);
            lists.clear();
            lists.addAll(readLists);
            spoilt = false;
            return tell(0, -1);
        }

        int listed(int c, int i) {
            if (c < 0 || c > 71 || i < 0) {
                return -2;
            }
            return spoilt ? -3 : i < lists.get(c).size() ? lists.get(c).get(i).place() : -1;
        }

        int bits(int f) {
            int bits = 0;
            for (int i = 0; i < 72; i++) {
                if (firsts[i] != 0 && (f == 9 || f == i / 8)) {
                    bits |= 1 << (f == 9 ? i / 8 : i % 8);
                }
            }
            return f < 0 || f > 9 ? -2 : bits;
        }

        int block(int i, int what) {
            if (i < 0 || what < 0 || what > 2) {
                return -2;
            }
            if (spoilt || i >= blocks.size()) {
                return spoilt ? -3 : -1;
            }
            Block b = blocks.get(i);
            return what == 0 ? b.place() : what == 1 ? b.body : b.free ? 1 : 0;
        }

        int found(int n) {
            if (n < 1 || n > 2048) {
                return -2;
            }
            Block b = foundFor(n);
            return spoilt ? -3 : b == null ? -1 : b.place();
        }

        int count(int what) {
            int[] told = {words.length, links, spoilt ? 1 : 0, refusals, 0, 0, 0, 0, 0};
            for (Block b : blocks) {
                told[b.free ? 5 : 4] += b.body;
                told[b.free ? 7 : 6]++;
                told[8] = b.free ? Math.max(told[8], b.body) : told[8];
            }
            if (what < 0 || what > 8) {
                return -2;
            }
            return what > 3 && spoilt ? -3 : told[what];
        }
    }

    private static int wrong = 0;

    private final Random random;
    private final int run;
    private final TwoLevels real = new TwoLevels();
    private final Model model = new Model();
    private final StringBuilder told = new StringBuilder();
    private final List<long[]> undo = new ArrayList<>();
    private int calls = 0;

    private ModelTest(int run) {
        this.run = run;
        this.random = new Random(run);
    }

    private void due(String call, long got, long want) {
        calls++;
        told.append(call).append(" = ").append(got).append("; ");
        if (got != want) {
            wrong++;
            if (wrong <= 5) {
                System.out.println("run " + run + ": " + told);
                System.out.println("  " + call + " answered " + got + ", due is " + want);
            }
        }
    }

    private int upTo(int n) {
        return random.nextInt(n + 1);
    }

    private int extreme() {
        int[] some = {Integer.MIN_VALUE, Integer.MIN_VALUE + 1, -1, 0, Integer.MAX_VALUE - 1, Integer.MAX_VALUE};
        return some[upTo(some.length - 1)];
    }

    private int wish() {
        if (upTo(60) == 0) {
            return extreme();
        }
        switch (upTo(7)) {
            case 0: return upTo(model.words.length);
            case 1: return upTo(60);
            case 2: return upTo(40) == 0 ? 2047 + upTo(3) : 1 + upTo(30);
            default: return 1 + upTo(12);
        }
    }

    private int place() {
        int odd = upTo(60) == 0 ? -1 : upTo(15);
        if (odd == -1) {
            return extreme();
        }
        if (odd == 0) {
            return upTo(model.words.length + 1) - 1;
        }
        Block b = model.blocks.get(random.nextInt(model.blocks.size()));
        for (int i = 0; i < 3 && b.free; i++) {
            b = model.blocks.get(random.nextInt(model.blocks.size()));
        }
        return odd == 1 ? b.place() + upTo(2) - 1 : b.place();
    }

    private void change() {
        int n = wish();
        int place = place();
        switch (upTo(13)) {
            case 0: case 1: case 2: case 3:
                due("found(" + n + ")", real.found(n), model.found(n));
                due("alloc(" + n + ")", real.alloc(n), model.alloc(n));
                break;
            case 4: {
                int a = upTo(60) == 0 ? extreme() : upTo(5) == 0 ? upTo(130) - 1 : 2 << upTo(5);
                due("aligned(" + n + ", " + a + ")", real.aligned(n, a), model.aligned(n, a));
                break;
            }
            case 5: case 6: case 7:
                due("free(" + place + ")", real.free(place), model.free(place));
                break;
            case 8: case 9: case 10:
                due("resize(" + place + ", " + n + ")", real.resize(place, n), model.resize(place, n));
                break;
            case 11: {
                int more = upTo(3) == 0 ? upTo(1100) : upTo(30);
                if (upTo(2) == 0) {
                    due("grow(" + more + ")", real.grow(more), model.grow(more));
                }
                break;
            }
            default: {
                int i = upTo(60) == 0 ? extreme() : upTo(6) - 1;
                long v = value();
                due("put(" + place + ", " + i + ", " + v + ")", real.put(place, i, v), model.put(place, i, v));
                break;
            }
        }
    }

    private long value() {
        switch (upTo(6)) {
            case 0: return random.nextLong();
            case 1: return upTo(4 * model.words.length);
            case 2: return model.words[random.nextInt(model.words.length)];
            case 3: return 4L * (3 + upTo(12)) + upTo(3);
            case 4: return model.blocks.get(random.nextInt(model.blocks.size())).place();
            case 5: return 0;
            default: return upTo(12) - 2L;
        }
    }

    private void spoil(int w, long v) {
        if (w >= 0 && w < model.words.length) {
            undo.add(new long[] {w, model.words[w]});
        }
        due("spoil(" + w + ", " + v + ")", real.spoil(w, v), model.spoil(w, v));
    }

    /** A used block of seven words or more is cut in two used ones, which a check lets pass. */
    private void respell() {
        for (Block b : model.blocks) {
            if (!model.spoilt && !b.free && b.body >= 7) {
                int n = 3 + upTo(b.body - 7);
                long h = model.words[b.header];
                long second = 4L * (b.body - n - 1);
                long first = 4L * n + (h & 3);
                due("put", real.put(b.place(), n, second), model.put(b.place(), n, second));
                due("spoil", real.spoil(b.header, first), model.spoil(b.header, first));
                check();
                return;
            }
        }
    }

    private void spoilSome() {
        Block b = model.blocks.get(random.nextInt(model.blocks.size()));
        long told = model.words[b.header];
        switch (upTo(9)) {
            case 0: spoil(upTo(model.words.length + 1) - 1, value()); break;
            case 1: spoil(b.header, value()); break;
            case 2: spoil(b.header, told ^ (1 + upTo(2))); break;
            case 3: spoil(b.header, told + 4L * (upTo(8) - 4)); break;
            case 4: spoil(b.place(), value()); break;
            case 5: spoil(b.place() + 1, value()); break;
            case 6: spoil(b.header + b.body, value()); break;
            case 7: spoil(b.header, told ^ (1L << upTo(63))); break;
            case 8: spoil(b.place(), 0); break;
            default: respell(); break;
        }
        if (upTo(1) == 0) {
            check();
        }
    }

    private void check() {
        due("check()", real.check(), model.check());
        due("where()", real.where(), model.wrongAt);
        if (!model.spoilt) {
            undo.clear();
        }
    }

    /** Words are laid back in turn, the latest first, with a check after each. */
    private void mend() {
        while (!undo.isEmpty() && calls < MOST_CALLS - 8) {
            long[] last = undo.remove(undo.size() - 1);
            due("spoil", real.spoil((int) last[0], last[1]), model.spoil((int) last[0], last[1]));
            if (undo.isEmpty() || upTo(2) == 0) {
                due("check()", real.check(), model.check());
                due("where()", real.where(), model.wrongAt);
            }
        }
    }

    private void ask() {
        int n = upTo(20) == 0 ? upTo(4100) - 2 : wish();
        switch (upTo(7)) {
            case 0: {
                int what = upTo(10) - 1;
                due("count(" + what + ")", real.count(what), model.count(what));
                break;
            }
            case 1: {
                int c = upTo(60) == 0 ? extreme() : upTo(74) - 1;
                int i = upTo(60) == 0 ? extreme() : upTo(3) - 1;
                due("listed(" + c + ", " + i + ")", real.listed(c, i), model.listed(c, i));
                break;
            }
            case 2: {
                int f = upTo(11) - 1;
                due("bits(" + f + ")", real.bits(f), model.bits(f));
                break;
            }
            case 3: {
                int i = upTo(60) == 0 ? extreme() : upTo(model.blocks.size() + 1) - 1;
                int what = upTo(4) - 1;
                due("block(" + i + ", " + what + ")", real.block(i, what), model.block(i, what));
                break;
            }
            case 4:
                due("found(" + n + ")", real.found(n), model.found(n));
                break;
            case 5: {
                int place = place();
                int refusal = model.refusal(place);
                due("size(" + place + ")", real.size(place), refusal != 0 ? refusal : model.used(place).body);
                break;
            }
            default:
                due("count(1)", real.count(1), model.count(1));
                break;
        }
    }

    /** All words, blocks and lists, as far as the calls of the object go. */
    private void compareAll() {
        check();
        for (int i = 0; i <= model.blocks.size() && calls < MOST_CALLS - 3; i++) {
            for (int what = 0; what < 3; what++) {
                due("block(" + i + ", " + what + ")", real.block(i, what), model.block(i, what));
            }
        }
        for (int what = 0; what < 9 && calls < MOST_CALLS; what++) {
            due("count(" + what + ")", real.count(what), model.count(what));
        }
        for (int f = 0; f < 10 && calls < MOST_CALLS; f++) {
            due("bits(" + f + ")", real.bits(f), model.bits(f));
        }
        for (int c = 0; c < 72; c++) {
            for (int i = 0; i < model.lists.get(c).size() && calls < MOST_CALLS; i++) {
                due("listed(" + c + ", " + i + ")", real.listed(c, i), model.listed(c, i));
            }
        }
        int from = model.words.length > 300 ? upTo(model.words.length - 1) : 0;
        for (int i = 0; i < model.words.length && calls < MOST_CALLS; i++) {
            int w = (from + i) % model.words.length;
            due("word(" + w + ")", real.word(w), model.words[w]);
        }
    }

    private void go() {
        if (upTo(9) > 0) {
            int words = upTo(20) == 0 ? 2048 : upTo(6) == 0 ? upTo(2100) : 14 + upTo(150);
            due("open(" + words + ")", real.open(words), model.open(words));
        }
        int steps = 10 + upTo(150);
        for (int step = 0; step < steps && calls < 300; step++) {
            int kind = upTo(15);
            if (run % 2 == 1 && kind == 0) {
                for (int i = upTo(2); i >= 0; i--) {
                    spoilSome();
                }
            } else if (kind < 4) {
                ask();
            } else {
                change();
            }
            if (model.spoilt && upTo(6) == 0) {
                mend();
            }
            if (upTo(400) == 0) {
                int words = upTo(80);
                due("open(" + words + ")", real.open(words), model.open(words));
                undo.clear();
            }
        }
        mend();
        compareAll();
        if (calls > MOST_CALLS) {
            wrong++;
            System.out.println("run " + run + " has " + calls + " calls");
        }
    }

    public static void main(String[] args) {
        long calls = 0;
        for (int run = 0; run < RUNS; run++) {
            ModelTest test = new ModelTest(run);
            test.go();
            calls += test.calls;
        }
        System.out.println(calls + " calls in " + RUNS + " runs, " + wrong + " answers not as due");
        if (wrong != 0) {
            System.exit(1);
        }
    }
}
