import java.util.Arrays;

/**
 * A pool of words that is given out in blocks. Free blocks hang in lists by
 * classes of two levels; every header and link lies in the pool itself.
 *
 * Inside, a block is told by the number of its header's word; its place, which
 * callers and links use, is one more.
 */
public final class TwoLevels {
    public static final int NONE = -1, BAD = -2, SPOILT = -3, FULL = -4;

    private static final int LEAST_POOL = 16;
    private static final int MOST_POOL = 2048;
    private static final int NEW_POOL = 64;
    private static final int LEAST_BODY = 3;
    private static final int LEAST_BLOCK = LEAST_BODY + 1;
    private static final int MOST_BLOCKS = MOST_POOL / LEAST_BLOCK;
    private static final int MOST_WISH = 2048;
    private static final int MOST_CLASSED = 4095;
    private static final int LEAST_GROWTH = 4;
    private static final int MOST_GROWTH = 1024;
    private static final int LEAST_ALIGNMENT = 2;
    private static final int MOST_ALIGNMENT = 64;

    private static final int LEVELS = 9;
    private static final int STEPS = 8;
    private static final int LISTS = LEVELS * STEPS;

    private static final int FREE_BIT = 1;
    private static final int AHEAD_FREE_BIT = 2;
    private static final int LENGTH_UNIT = 4;

    private static final int WRONG_SIZE = 1;
    private static final int WRONG_AHEAD = 2;
    private static final int WRONG_TWO = 3;
    private static final int WRONG_END = 4;
    private static final int WRONG_LINK = 5;
    private static final int WRONG_LOST = 6;

    private final Pool pool;
    private final Lists lists;
    private final Checker checker;
    private boolean spoilt;
    private int refusals;

    public TwoLevels() {
        pool = new Pool();
        lists = new Lists(pool);
        checker = new Checker(pool, lists);
        begin(NEW_POOL);
    }

    public int open(int words) {
        if (words < LEAST_POOL || words > MOST_POOL) {
            return BAD;
        }
        begin(words);
        return 1;
    }

    public int alloc(int n) {
        if (!isWish(n)) {
            return BAD;
        }
        if (spoilt) {
            return SPOILT;
        }
        int body = bodyFor(n);
        int header = lists.headerFor(body);
        if (header == NONE) {
            return refuse();
        }
        lists.forgetMoves();
        take(header);
        cutTo(header, body);
        return header + 1;
    }

    public int aligned(int n, int a) {
        if (!isWish(n) || !isAlignment(a)) {
            return BAD;
        }
        if (spoilt) {
            return SPOILT;
        }
        int body = bodyFor(n);
        int header = lists.headerFor(body + mostAhead(a));
        if (header == NONE) {
            return refuse();
        }
        lists.forgetMoves();
        take(header);
        int place = alignedPlace(header + 1, a);
        if (place != header + 1) {
            splitBefore(header, place - 1);
        }
        cutTo(place - 1, body);
        return place;
    }

    public int free(int place) {
        int refusal = refusalOf(place);
        if (refusal != 0) {
            return refusal;
        }
        lists.forgetMoves();
        return release(place - 1);
    }

    public int resize(int place, int n) {
        int refusal = refusalOf(place);
        if (refusal != 0) {
            return refusal;
        }
        if (!isWish(n)) {
            return BAD;
        }
        int header = place - 1;
        int body = bodyFor(n);
        if (body <= bodyWithBehind(header)) {
            lists.forgetMoves();
            if (body > pool.bodyOf(header)) {
                joinBehind(header);
            }
            cutTo(header, body);
            return place;
        }
        int to = lists.headerFor(body);
        if (to == NONE) {
            return refuse();
        }
        lists.forgetMoves();
        take(to);
        cutTo(to, body);
        copyBody(header, to);
        release(header);
        return to + 1;
    }

    public int grow(int n) {
        if (n < LEAST_GROWTH || n > MOST_GROWTH) {
            return BAD;
        }
        if (spoilt) {
            return SPOILT;
        }
        int header = pool.end;
        if (header + n > MOST_POOL) {
            return FULL;
        }
        boolean aheadFree = pool.isFree(lastHeader());
        lists.forgetMoves();
        pool.end = header + n;
        pool.layHeader(header, n - 1, aheadFree ? AHEAD_FREE_BIT : 0);
        release(header);
        return pool.end;
    }

    public int size(int place) {
        int refusal = refusalOf(place);
        return refusal != 0 ? refusal : pool.bodyOf(place - 1);
    }

    public int put(int place, int i, long v) {
        int refusal = refusalOf(place);
        if (refusal != 0) {
            return refusal;
        }
        if (i < 0 || i >= pool.bodyOf(place - 1)) {
            return BAD;
        }
        pool.lay(place + i, v);
        return 1;
    }

    public long word(int w) {
        return pool.at(w);
    }

    public int spoil(int w, long v) {
        if (!pool.has(w)) {
            return BAD;
        }
        pool.lay(w, v);
        spoilt = true;
        return 1;
    }

    public int check() {
        int wrong = checker.run();
        if (wrong == 0) {
            spoilt = false;
        }
        return wrong;
    }

    public int where() {
        return checker.wrongAt;
    }

    public int classOf(int n, boolean wish) {
        if (n < 1 || n > MOST_CLASSED) {
            return BAD;
        }
        return wish ? Classes.ofWish(n) : Classes.ofBody(n);
    }

    public int listed(int c, int i) {
        if (c < 0 || c >= LISTS || i < 0) {
            return BAD;
        }
        if (spoilt) {
            return SPOILT;
        }
        return lists.placeInList(c, i);
    }

    public int bits(int f) {
        if (f < 0 || f > LEVELS) {
            return BAD;
        }
        return f == LEVELS ? lists.levelBits() : lists.stepBits(f);
    }

    public int block(int i, int what) {
        if (i < 0 || what < 0 || what > 2) {
            return BAD;
        }
        if (spoilt) {
            return SPOILT;
        }
        int header = headerOfBlock(i);
        if (header == NONE) {
            return NONE;
        }
        switch (what) {
            case 0: return header + 1;
            case 1: return pool.bodyOf(header);
            default: return pool.isFree(header) ? 1 : 0;
        }
    }

    public int found(int n) {
        if (!isWish(n)) {
            return BAD;
        }
        if (spoilt) {
            return SPOILT;
        }
        int header = lists.headerFor(bodyFor(n));
        return header == NONE ? NONE : header + 1;
    }

    public int count(int what) {
        switch (what) {
            case 0: return pool.end;
            case 1: return lists.moves;
            case 2: return spoilt ? 1 : 0;
            case 3: return refusals;
            case 4: return spoilt ? SPOILT : wordsOf(false);
            case 5: return spoilt ? SPOILT : wordsOf(true);
            case 6: return spoilt ? SPOILT : blocksOf(false);
            case 7: return spoilt ? SPOILT : blocksOf(true);
            case 8: return spoilt ? SPOILT : mostFree();
            default: return BAD;
        }
    }

    private void begin(int words) {
        pool.clear(words);
        lists.clear();
        makeFree(0, words - 1);
        lists.forgetMoves();
        checker.wrongAt = NONE;
        spoilt = false;
        refusals = 0;
    }

    private static boolean isWish(int n) {
        return n >= 1 && n <= MOST_WISH;
    }

    private static int bodyFor(int n) {
        return Math.max(n, LEAST_BODY);
    }

    private static boolean isAlignment(int a) {
        return a >= LEAST_ALIGNMENT && a <= MOST_ALIGNMENT && (a & (a - 1)) == 0;
    }

    /** What lies ahead of the aligned place must be nothing, or enough for a block. */
    private static int alignedPlace(int place, int a) {
        int mask = a - 1;
        return (place & mask) == 0 ? place : (place + LEAST_BLOCK + mask) & ~mask;
    }

    /** The most words that can lie between a place and the aligned one. */
    private static int mostAhead(int a) {
        return LEAST_BLOCK + a - 1;
    }

    private int refuse() {
        refusals++;
        return NONE;
    }

    /** 0 for the place of a used block; a spoilt pool's headers can't tell which places are. */
    private int refusalOf(int place) {
        if (place < 1 || place >= pool.end) {
            return BAD;
        }
        if (spoilt) {
            return SPOILT;
        }
        return isUsedPlace(place) ? 0 : BAD;
    }

    private boolean isUsedPlace(int place) {
        int header = 0;
        for (int i = 0; i < MOST_BLOCKS && header < place - 1; i++) {
            header = pool.behind(header);
        }
        return header == place - 1 && pool.has(header) && !pool.isFree(header);
    }

    private int headerOfBlock(int index) {
        int header = 0;
        for (int i = 0; i < MOST_BLOCKS && i < index && header < pool.end; i++) {
            header = pool.behind(header);
        }
        return index < MOST_BLOCKS && pool.has(header) ? header : NONE;
    }

    private int lastHeader() {
        int last = 0;
        for (int i = 0; i < MOST_BLOCKS && pool.behind(last) < pool.end; i++) {
            last = pool.behind(last);
        }
        return last;
    }

    private int wordsOf(boolean free) {
        int words = 0;
        int header = 0;
        for (int i = 0; i < MOST_BLOCKS && header < pool.end; i++) {
            if (pool.isFree(header) == free) {
                words += pool.bodyOf(header);
            }
            header = pool.behind(header);
        }
        return words;
    }

    private int blocksOf(boolean free) {
        int blocks = 0;
        int header = 0;
        for (int i = 0; i < MOST_BLOCKS && header < pool.end; i++) {
            if (pool.isFree(header) == free) {
                blocks++;
            }
            header = pool.behind(header);
        }
        return blocks;
    }

    private int mostFree() {
        int most = 0;
        int header = 0;
        for (int i = 0; i < MOST_BLOCKS && header < pool.end; i++) {
            if (pool.isFree(header)) {
                most = Math.max(most, pool.bodyOf(header));
            }
            header = pool.behind(header);
        }
        return most;
    }

    /** A free block becomes used, whole. */
    private void take(int header) {
        lists.leave(header);
        pool.layHeader(header, pool.bodyOf(header), 0);
        pool.tellBehind(header);
    }

    /** What a used block has beyond body becomes free, if it is enough for a block. */
    private void cutTo(int header, int body) {
        int left = pool.bodyOf(header) - body;
        if (left < LEAST_BLOCK) {
            return;
        }
        pool.layBody(header, body);
        int rest = pool.behind(header);
        pool.layHeader(rest, left - 1, 0);
        release(rest);
    }

    /** The words of a used block that lie ahead of the header at 'at' become free. */
    private void splitBefore(int header, int at) {
        pool.layHeader(at, pool.bodyOf(header) - (at - header), 0);
        makeFree(header, at - header - 1);
    }

    /** Answers the words of the free block that the used one is in then. */
    private int release(int header) {
        int start = header;
        int body = pool.bodyOf(header);
        int behind = pool.behind(header);
        if (pool.isFree(behind)) {
            lists.leave(behind);
            body += 1 + pool.bodyOf(behind);
        }
        if (pool.isAheadFree(header)) {
            start = pool.freeAhead(header);
            lists.leave(start);
            body += 1 + pool.bodyOf(start);
        }
        makeFree(start, body);
        return body;
    }

    /** Free blocks are joined at once, so the block ahead of one is never free. */
    private void makeFree(int header, int body) {
        pool.layHeader(header, body, FREE_BIT);
        pool.lay(header + body, body);
        lists.come(header);
        pool.tellBehind(header);
    }

    /** The words that a block would have together with the one behind, if that is free. */
    private int bodyWithBehind(int header) {
        int body = pool.bodyOf(header);
        int behind = pool.behind(header);
        return pool.isFree(behind) ? body + 1 + pool.bodyOf(behind) : body;
    }

    private void joinBehind(int header) {
        int behind = pool.behind(header);
        lists.leave(behind);
        pool.layBody(header, pool.bodyOf(header) + 1 + pool.bodyOf(behind));
        pool.tellBehind(header);
    }

    private void copyBody(int from, int to) {
        int words = Math.min(pool.bodyOf(from), MOST_POOL);
        for (int i = 1; i <= words; i++) {
            pool.lay(to + i, pool.at(from + i));
        }
    }

    /** The number of a class is 8 f + s. */
    private static final class Classes {
        static int ofBody(int n) {
            if (n < STEPS) {
                return n;
            }
            int shift = stepShift(n);
            return STEPS * (shift + 1) + (n >> shift) - STEPS;
        }

        /** Rounded up, so that every block of the class is enough. */
        static int ofWish(int n) {
            int body = bodyFor(n);
            if (body < STEPS) {
                return ofBody(body);
            }
            return ofBody(body + (1 << stepShift(body)) - 1);
        }

        /** 2^shift is how many sizes the class of n has (n 8 or more). */
        private static int stepShift(int n) {
            return 28 - Integer.numberOfLeadingZeros(n);
        }
    }

    /** The words, and the headers among them. Beyond its end there are only zeros, which can't be laid. */
    private static final class Pool {
        private final long[] words = new long[MOST_POOL];
        private int end;

        void clear(int newEnd) {
            Arrays.fill(words, 0L);
            end = newEnd;
        }

        boolean has(int w) {
            return w >= 0 && w < end;
        }

        long at(int w) {
            return w >= 0 && w < end ? words[w] : 0L;
        }

        void lay(int w, long v) {
            if (w >= 0 && w < end) {
                words[w] = v;
            }
        }

        int bodyOf(int header) {
            return (int) (at(header) / LENGTH_UNIT);
        }

        boolean isFree(int header) {
            return (at(header) & FREE_BIT) != 0;
        }

        boolean isAheadFree(int header) {
            return (at(header) & AHEAD_FREE_BIT) != 0;
        }

        int behind(int header) {
            return header + 1 + (int) (at(header) / LENGTH_UNIT);
        }

        /** A free block's last word tells how long it is, to the one behind it. */
        int freeAhead(int header) {
            return header - 1 - (int) at(header - 1);
        }

        void layHeader(int header, int body, int marks) {
            lay(header, (long) body * LENGTH_UNIT + marks);
        }

        void layBody(int header, int body) {
            layHeader(header, body, (int) (at(header) & (LENGTH_UNIT - 1)));
        }

        /** The header behind a block bears whether that is free. */
        void tellBehind(int header) {
            int behind = behind(header);
            long others = at(behind) & ~(long) AHEAD_FREE_BIT;
            lay(behind, isFree(header) ? others + AHEAD_FREE_BIT : others);
        }
    }

    /** The lists of free blocks: the firsts are held here, all else in the pool. */
    private static final class Lists {
        private final Pool pool;
        private final int[] firsts = new int[LISTS];
        private int moves;

        Lists(Pool pool) {
            this.pool = pool;
        }

        void clear() {
            Arrays.fill(firsts, 0);
        }

        void forgetMoves() {
            moves = 0;
        }

        /** The place of the first block of a list; 0: it is empty. */
        int firstOf(int c) {
            return c >= 0 && c < LISTS ? firsts[c] : 0;
        }

        private void layFirst(int c, int place) {
            if (c >= 0 && c < LISTS) {
                firsts[c] = place;
            }
        }

        void come(int header) {
            int c = Classes.ofBody(pool.bodyOf(header));
            int place = header + 1;
            int next = firstOf(c);
            pool.lay(place, next);
            pool.lay(place + 1, 0);
            if (next != 0) {
                pool.lay(next + 1, place);
            }
            layFirst(c, place);
            moves++;
        }

        void leave(int header) {
            int place = header + 1;
            int next = (int) pool.at(place);
            int ahead = (int) pool.at(place + 1);
            if (next != 0) {
                pool.lay(next + 1, ahead);
            }
            if (ahead != 0) {
                pool.lay(ahead, next);
            } else {
                layFirst(Classes.ofBody(pool.bodyOf(header)), next);
            }
            moves++;
        }

        /** The block that is found for a wish, or NONE: classes in order of f, then s, are their numbers in order. */
        int headerFor(int wish) {
            for (int c = Classes.ofWish(wish); c < LISTS; c++) {
                if (firstOf(c) != 0) {
                    return firstOf(c) - 1;
                }
            }
            return NONE;
        }

        int placeInList(int c, int index) {
            int place = firstOf(c);
            for (int i = 0; i < MOST_BLOCKS && i < index && place != 0; i++) {
                place = (int) pool.at(place);
            }
            return index < MOST_BLOCKS && place != 0 ? place : NONE;
        }

        int stepBits(int f) {
            int bits = 0;
            for (int s = 0; s < STEPS; s++) {
                if (firstOf(STEPS * f + s) != 0) {
                    bits |= 1 << s;
                }
            }
            return bits;
        }

        int levelBits() {
            int bits = 0;
            for (int f = 0; f < LEVELS; f++) {
                if (stepBits(f) != 0) {
                    bits |= 1 << f;
                }
            }
            return bits;
        }
    }

    /** Tells what is wrong in a pool whose words may hold anything. */
    private static final class Checker {
        private static final int UNMET = 1;
        private static final int MET = 2;

        private final Pool pool;
        private final Lists lists;
        /** By header: whether a free block is there, and was met in a list. */
        private final int[] marks = new int[MOST_POOL];
        private int wrongAt;

        Checker(Pool pool, Lists lists) {
            this.pool = pool;
            this.lists = lists;
        }

        int run() {
            Arrays.fill(marks, 0);
            wrongAt = NONE;
            int wrong = readBlocks();
            for (int c = 0; c < LISTS && wrong == 0; c++) {
                wrong = readList(c);
            }
            return wrong != 0 ? wrong : seekLost();
        }

        private int tell(int wrong, int header) {
            wrongAt = header;
            return wrong;
        }

        private int markOf(int header) {
            return header >= 0 && header < MOST_POOL ? marks[header] : 0;
        }

        private void mark(int header, int mark) {
            if (header >= 0 && header < MOST_POOL) {
                marks[header] = mark;
            }
        }

        private int readBlocks() {
            int header = 0;
            boolean aheadFree = false;
            for (int i = 0; i < MOST_BLOCKS && header < pool.end; i++) {
                int wrong = wrongOfBlock(header, aheadFree);
                if (wrong != 0) {
                    return tell(wrong, header);
                }
                aheadFree = pool.isFree(header);
                if (aheadFree) {
                    mark(header, UNMET);
                }
                header = pool.behind(header);
            }
            return 0;
        }

        private int wrongOfBlock(int header, boolean aheadFree) {
            long told = pool.at(header);
            long body = told / LENGTH_UNIT;
            if (told < 0 || body < LEAST_BODY || body > pool.end - header - 1) {
                return WRONG_SIZE;
            }
            if (pool.isAheadFree(header) != aheadFree) {
                return WRONG_AHEAD;
            }
            if (!pool.isFree(header)) {
                return 0;
            }
            if (aheadFree) {
                return WRONG_TWO;
            }
            return pool.at(header + (int) body) != body ? WRONG_END : 0;
        }

        /** Every step meets a block that was not met before, so there are not more of them than blocks. */
        private int readList(int c) {
            int ahead = 0;
            long next = lists.firstOf(c);
            for (int i = 0; i <= MOST_BLOCKS && next != 0; i++) {
                if (!isLinked(next, ahead, c)) {
                    return tell(WRONG_LINK, ahead == 0 ? NONE : ahead - 1);
                }
                ahead = (int) next;
                mark(ahead - 1, MET);
                next = pool.at(ahead);
            }
            return 0;
        }

        private boolean isLinked(long place, int ahead, int c) {
            if (place < 1 || place >= pool.end) {
                return false;
            }
            int header = (int) place - 1;
            return markOf(header) == UNMET
                && Classes.ofBody(pool.bodyOf(header)) == c
                && pool.at(header + 2) == ahead;
        }

        private int seekLost() {
            for (int header = 0; header < pool.end; header++) {
                if (markOf(header) == UNMET) {
                    return tell(WRONG_LOST, header);
                }
            }
            return 0;
        }
    }
}
