/**
 * Six sowers of numbers. Each keeps all that it did since its seed, so that another source can be
 * brought as far as it, and what it draws can be held against what that one draws.
 */
public final class Splitseed {
    private static final int NONE = -1;
    private static final int REFUSED = -9;
    private static final int GREATEST = 2147483647;

    private static final int SOWERS = 6;
    private static final int MOST_ACTS = 60;
    private static final int MOST_GENERATION = 4;
    private static final int MOST_DRAWS = 20;
    private static final int MOST_ASKED = 40;
    private static final int MOST_AHEAD = 20;

    private static final int WHOLE = 0;
    private static final int BELOW = 1;
    private static final int BETWEEN = 2;
    private static final int LONG = 3;
    private static final int COIN = 4;
    private static final int SPLIT = 5;

    private final Sower[] sowers;
    private final Source triedOne;
    private final Source triedTwo;
    private final Source childOne;
    private final Source childTwo;
    private final Source lost;
    private final long[] nextWholes;
    private final StringBuilder text;
    private int refusals;
    private int knocks;

    /** Creates six sowers of the same seed. */
    public Splitseed() {
        sowers = new Sower[SOWERS];
        for (int i = 0; i < SOWERS; i++) {
            sowers[i] = new Sower();
        }
        triedOne = new Source();
        triedTwo = new Source();
        childOne = new Source();
        childTwo = new Source();
        lost = new Source();
        nextWholes = new long[SOWERS];
        text = new StringBuilder();
    }

    // ---- acts

    public int begin(int sower, int first, int second) throws IndexOutOfBoundsException {
        Sower s = at(sower);
        int had = s.rowSize();
        s.startWith(first, second);
        return had;
    }

    public boolean whole(int sower) throws IndexOutOfBoundsException, IllegalStateException {
        Sower s = at(sower);
        needRoom(s, 1);
        return doesRight(s, WHOLE, 0, 0);
    }

    public int below(int sower, int n) throws IndexOutOfBoundsException, IllegalStateException {
        Sower s = at(sower);
        needRoom(s, 1);
        if (n < 1) {
            return refuse();
        }
        if (n == 1) {
            return (int) s.doAct(BELOW, 0, n, lost);
        }
        return doesRight(s, BELOW, 0, n) ? 1 : 0;
    }

    public int between(int sower, int from, int to)
            throws IndexOutOfBoundsException, IllegalStateException {
        Sower s = at(sower);
        needRoom(s, 1);
        if (from >= to) {
            return refuse();
        }
        return doesRight(s, BETWEEN, from, to) ? 1 : 0;
    }

    public int only(int sower, int from)
            throws IndexOutOfBoundsException, IllegalArgumentException, IllegalStateException {
        Sower s = at(sower);
        if (from == GREATEST) {
            throw new IllegalArgumentException();
        }
        needRoom(s, 1);
        return (int) s.doAct(BETWEEN, from, from + 1, lost);
    }

    public boolean longer(int sower) throws IndexOutOfBoundsException, IllegalStateException {
        Sower s = at(sower);
        needRoom(s, 1);
        return doesRight(s, LONG, 0, 0);
    }

    public boolean coin(int sower) throws IndexOutOfBoundsException, IllegalStateException {
        Sower s = at(sower);
        needRoom(s, 1);
        return doesRight(s, COIN, 0, 0);
    }

    public int draw(int sower, int n, int times)
            throws IndexOutOfBoundsException, IllegalArgumentException, IllegalStateException {
        Sower s = at(sower);
        needFromTo(times, 1, MOST_DRAWS);
        needRoom(s, times);
        if (n < 1) {
            return refuse();
        }
        int right = 0;
        for (int i = 0; i < times; i++) {
            if (doesRight(s, BELOW, 0, n)) {
                right++;
            }
        }
        return right;
    }

    public int split(int sower, int to)
            throws IndexOutOfBoundsException, IllegalArgumentException, IllegalStateException {
        Sower s = at(sower);
        Sower child = at(to);
        if (sower == to) {
            throw new IllegalArgumentException();
        }
        needRoom(s, 1);
        if (s.generation >= MOST_GENERATION) {
            throw new IllegalStateException();
        }
        child.takeHistory(s);
        child.openRow();
        s.doAct(SPLIT, 0, 0, child.source);
        return child.generation;
    }

    public int again(int sower, int to) throws IndexOutOfBoundsException {
        Sower s = at(sower);
        Sower like = at(to);
        if (sower != to) {
            like.takeHistory(s);
        }
        like.bringSource(like.source, lost);
        return like.rowSize();
    }

    public int back(int sower, int many)
            throws IndexOutOfBoundsException, IllegalArgumentException {
        Sower s = at(sower);
        int had = s.rowSize();
        needFromTo(many, 0, had);
        s.cutRow(many);
        s.bringSource(s.source, lost);
        return had - many;
    }

    // ---- what is asked of one

    public int ofSower(int sower, int what)
            throws IndexOutOfBoundsException, IllegalArgumentException {
        Sower s = at(sower);
        switch (what) {
            case 0:
                return s.rowSize();
            case 1:
                return s.generation;
            case 2:
                return s.first;
            case 3:
                return s.second;
            case 4:
                return s.rowStart();
            default:
                throw new IllegalArgumentException();
        }
    }

    public String row(int sower) throws IndexOutOfBoundsException {
        Sower s = at(sower);
        text.setLength(0);
        s.writeActs(text, s.rowStart(), s.size);
        return text.toString();
    }

    public String birth(int sower) throws IndexOutOfBoundsException {
        Sower s = at(sower);
        text.setLength(0);
        s.writeBirth(text);
        return text.toString();
    }

    public String act(int sower, int k) throws IndexOutOfBoundsException {
        Sower s = at(sower);
        if (k < 0 || k >= s.rowSize()) {
            throw new IndexOutOfBoundsException();
        }
        int act = s.rowStart() + k;
        text.setLength(0);
        s.writeActs(text, act, act + 1);
        return text.toString();
    }

    public int count(int sower, int kind)
            throws IndexOutOfBoundsException, IllegalArgumentException {
        Sower s = at(sower);
        needFromTo(kind, WHOLE, SPLIT);
        return s.rowCount(kind);
    }

    public int within(int sower, int from, int to, int times)
            throws IndexOutOfBoundsException, IllegalArgumentException {
        Sower s = at(sower);
        needFromTo(times, 1, MOST_ASKED);
        if (from >= to) {
            return refuse();
        }
        s.bringSource(triedOne, lost);
        int inside = 0;
        for (int i = 0; i < times; i++) {
            long drawn = triedOne.next(BETWEEN, from, to);
            if (isInside(BETWEEN, from, to, drawn)) {
                inside++;
            }
        }
        return inside;
    }

    public int tried(int sower) throws IndexOutOfBoundsException {
        Sower s = at(sower);
        s.bringSource(triedOne, lost);
        s.bringSource(triedTwo, lost);
        int same = sameDraws(triedOne, triedTwo, WHOLE, 0, 0, 1);
        same += sameDraws(triedOne, triedTwo, BELOW, 0, 7, 1);
        same += sameDraws(triedOne, triedTwo, LONG, 0, 0, 1);
        same += sameDraws(triedOne, triedTwo, COIN, 0, 0, 1);
        triedOne.splitInto(childOne);
        triedTwo.splitInto(childTwo);
        return same + sameDraws(childOne, childTwo, WHOLE, 0, 0, 1);
    }

    // ---- what is asked of two

    public boolean areLike(int sower, int other) throws IndexOutOfBoundsException {
        Sower s = at(sower);
        Sower o = at(other);
        return s.isLike(o);
    }

    public boolean areTwins(int sower, int other) throws IndexOutOfBoundsException {
        Sower s = at(sower);
        Sower o = at(other);
        return s.isTwinOf(o);
    }

    public int common(int sower, int other) throws IndexOutOfBoundsException {
        Sower s = at(sower);
        Sower o = at(other);
        return s.isTwinOf(o) ? s.sameActs(o) - s.rowStart() : NONE;
    }

    public int together(int sower, int other, int times)
            throws IndexOutOfBoundsException, IllegalArgumentException {
        Sower s = at(sower);
        Sower o = at(other);
        needFromTo(times, 1, MOST_ASKED);
        if (!s.isLike(o)) {
            return refuse();
        }
        s.bringSource(triedOne, lost);
        o.bringSource(triedTwo, lost);
        return sameDraws(triedOne, triedTwo, WHOLE, 0, 0, times);
    }

    public int both(int sower, int other) throws IndexOutOfBoundsException, IllegalStateException {
        Sower s = at(sower);
        Sower o = at(other);
        needRoom(s, 1);
        needRoom(o, 1);
        boolean like = s.isLike(o);
        long drawn = s.doAct(WHOLE, 0, 0, lost);
        long drawnToo = sower == other ? drawn : o.doAct(WHOLE, 0, 0, lost);
        if (!like) {
            return NONE;
        }
        return drawn == drawnToo ? 1 : 0;
    }

    public int pairs(int first, int second, int times) throws IllegalArgumentException {
        needFromTo(times, 1, MOST_ASKED);
        triedOne.startWith(first, second);
        triedTwo.startWith(first, second);
        return sameDraws(triedOne, triedTwo, LONG, 0, 0, times);
    }

    public int children(int first, int second, int ahead, int times)
            throws IllegalArgumentException {
        needFromTo(ahead, 0, MOST_AHEAD);
        needFromTo(times, 1, MOST_ASKED);
        triedOne.startWith(first, second);
        triedTwo.startWith(first, second);
        for (int i = 0; i < ahead; i++) {
            triedOne.next(BELOW, 0, 10);
            triedTwo.next(BELOW, 0, 10);
        }
        triedOne.splitInto(childOne);
        triedTwo.splitInto(childTwo);
        for (int i = 0; i < 5; i++) {
            triedOne.next(WHOLE, 0, 0);
        }
        return sameDraws(childOne, childTwo, COIN, 0, 0, times);
    }

    // ---- the whole

    public int knock() {
        knocks++;
        return knocks;
    }

    public int house(int what) throws IllegalArgumentException {
        switch (what) {
            case 0:
                return actsOfAll();
            case 1:
                return likePairs();
            case 2:
                return greatestGeneration();
            case 3:
                return refusals;
            case 4:
                return knocks;
            default:
                throw new IllegalArgumentException();
        }
    }

    public boolean isSound() {
        for (int i = 0; i < SOWERS; i++) {
            Sower s = at(i);
            if (s.rowSize() > MOST_ACTS || s.generation > MOST_GENERATION || tried(i) != 5) {
                return false;
            }
        }
        return likesDrawTheSame();
    }

    public long digest() {
        long d = 7732;
        for (int what = 0; what <= 4; what++) {
            d = d * 31 + house(what);
        }
        for (int i = 0; i < SOWERS; i++) {
            d = withSower(d, i);
        }
        for (int i = 0; i < SOWERS; i++) {
            for (int j = i + 1; j < SOWERS; j++) {
                d = d * 31 + (areLike(i, j) ? 1 : 0);
                d = d * 31 + common(i, j);
            }
        }
        return d * 31 + (isSound() ? 1 : 0);
    }

    // ---- helpers

    private Sower at(int sower) {
        if (sower < 0 || sower >= sowers.length) {
            throw new IndexOutOfBoundsException();
        }
        return sowers[sower];
    }

    private static void needRoom(Sower s, int more) {
        if (s.rowSize() + more > MOST_ACTS) {
            throw new IllegalStateException();
        }
    }

    private static void needFromTo(int number, int least, int most) {
        if (number < least || number > most) {
            throw new IllegalArgumentException();
        }
    }

    private int refuse() {
        refusals++;
        return REFUSED;
    }

    /** Does an act; answers whether what is drawn is right. */
    private boolean doesRight(Sower s, int kind, int low, int high) {
        s.bringSource(triedOne, lost);
        long due = triedOne.next(kind, low, high);
        long drawn = s.doAct(kind, low, high, lost);
        return drawn == due && isInside(kind, low, high, drawn);
    }

    private static boolean isInside(int kind, int low, int high, long drawn) {
        if (kind == BELOW || kind == BETWEEN) {
            return drawn >= low && drawn < high;
        }
        return true;
    }

    private static int sameDraws(Source a, Source b, int kind, int low, int high, int times) {
        int same = 0;
        for (int i = 0; i < times; i++) {
            if (a.next(kind, low, high) == b.next(kind, low, high)) {
                same++;
            }
        }
        return same;
    }

    private int actsOfAll() {
        int acts = 0;
        for (int i = 0; i < SOWERS; i++) {
            acts += at(i).rowSize();
        }
        return acts;
    }

    private int likePairs() {
        int like = 0;
        for (int i = 0; i < SOWERS; i++) {
            for (int j = i + 1; j < SOWERS; j++) {
                if (at(i).isLike(at(j))) {
                    like++;
                }
            }
        }
        return like;
    }

    private int greatestGeneration() {
        int greatest = 0;
        for (int i = 0; i < SOWERS; i++) {
            greatest = Math.max(greatest, at(i).generation);
        }
        return greatest;
    }

    private boolean likesDrawTheSame() {
        for (int i = 0; i < nextWholes.length; i++) {
            at(i).bringSource(triedOne, lost);
            nextWholes[i] = triedOne.next(WHOLE, 0, 0);
        }
        for (int i = 0; i < nextWholes.length; i++) {
            for (int j = i + 1; j < nextWholes.length; j++) {
                if (nextWholes[i] != nextWholes[j] && at(i).isLike(at(j))) {
                    return false;
                }
            }
        }
        return true;
    }

    private long withSower(long digest, int sower) {
        long d = digest;
        Sower s = at(sower);
        for (int what = 0; what <= 4; what++) {
            d = d * 31 + ofSower(sower, what);
        }
        d = d * 31 + s.rowLength(s.generation);
        d = d * 31 + s.birthLength();
        for (int kind = WHOLE; kind <= SPLIT; kind++) {
            d = d * 31 + s.rowCount(kind);
        }
        return d * 31 + tried(sower);
    }

    /** Where the numbers come from: a walk by an odd step, each place of it well mixed. */
    private static final class Source {
        private static final long FIRST_STEP = 0x9E3779B97F4A7C15L;

        private long state;
        private long step;

        Source() {
            step = FIRST_STEP;
        }

        void startWith(int first, int second) {
            state = ((long) first << 32) | (second & 0xFFFFFFFFL);
            step = FIRST_STEP;
        }

        /** Draws by an act that is no split. */
        long next(int kind, int low, int high) {
            long bits = nextBits();
            switch (kind) {
                case WHOLE:
                    return (int) (bits >>> 32);
                case BELOW:
                case BETWEEN:
                    long size = (long) high - low;
                    return size < 1 ? low : low + (bits >>> 1) % size;
                case COIN:
                    return bits >>> 63;
                default:
                    return bits;
            }
        }

        // Both numbers are drawn first, as a source may be split into itself.
        void splitInto(Source child) {
            long childState = nextBits();
            long childStep = nextBits() | 1;
            // A step of few changing bits walks badly.
            if (Long.bitCount(childStep ^ (childStep >>> 1)) < 24) {
                childStep ^= 0xAAAAAAAAAAAAAAAAL;
            }
            child.state = childState;
            child.step = childStep;
        }

        private long nextBits() {
            state += step;
            long z = (state ^ (state >>> 30)) * 0xBF58476D1CE4E5B9L;
            z = (z ^ (z >>> 27)) * 0x94D049BB133111EBL;
            return z ^ (z >>> 31);
        }
    }

    /**
     * A sower: its seed, and one history of acts in which the rows ahead of each split and then its
     * own row stand one behind the other.
     */
    private static final class Sower {
        private static final int HISTORY = MOST_ACTS * (MOST_GENERATION + 1);
        private static final int MOST_DIGITS = 10;

        final Source source;
        int first;
        int second;
        int generation;
        int size;
        private final int[] starts;
        private final int[] kinds;
        private final int[] lows;
        private final int[] highs;

        Sower() {
            source = new Source();
            starts = new int[MOST_GENERATION + 1];
            kinds = new int[HISTORY];
            lows = new int[HISTORY];
            highs = new int[HISTORY];
        }

        void startWith(int newFirst, int newSecond) {
            first = newFirst;
            second = newSecond;
            generation = 0;
            size = 0;
            source.startWith(newFirst, newSecond);
        }

        int rowStart() {
            return startOf(generation);
        }

        int rowSize() {
            return size - rowStart();
        }

        int rowCount(int kind) {
            int count = 0;
            for (int k = rowStart(); k < size; k++) {
                if (kindOf(k) == kind) {
                    count++;
                }
            }
            return count;
        }

        /** Does an act and keeps it; a split needs the source that becomes the child's. */
        long doAct(int kind, int low, int high, Source child) {
            keep(kind, low, high);
            return drawBy(source, size - 1, child);
        }

        void cutRow(int many) {
            size = rowStart() + many;
        }

        /** All that was done so far becomes the birth; the row behind it is empty. */
        void openRow() {
            if (generation + 1 < starts.length) {
                generation++;
                starts[generation] = size;
            }
        }

        void takeHistory(Sower other) {
            first = other.first;
            second = other.second;
            generation = other.generation;
            size = other.size;
            System.arraycopy(other.starts, 0, starts, 0, MOST_GENERATION + 1);
            System.arraycopy(other.kinds, 0, kinds, 0, HISTORY);
            System.arraycopy(other.lows, 0, lows, 0, HISTORY);
            System.arraycopy(other.highs, 0, highs, 0, HISTORY);
        }

        /** Brings a source as far as this sower is; what it splits off on the way is lost. */
        void bringSource(Source tried, Source lost) {
            tried.startWith(first, second);
            for (int g = 0; g <= generation; g++) {
                for (int k = startOf(g); k < endOf(g); k++) {
                    drawBy(tried, k, lost);
                }
                if (g < generation) {
                    tried.splitInto(tried);
                }
            }
        }

        boolean isTwinOf(Sower other) {
            return hasSplitsOf(other) && sameActs(other) >= rowStart();
        }

        boolean isLike(Sower other) {
            return size == other.size && hasSplitsOf(other) && sameActs(other) == size;
        }

        private boolean hasSplitsOf(Sower other) {
            if (first != other.first || second != other.second
                    || generation != other.generation) {
                return false;
            }
            for (int g = 1; g <= generation; g++) {
                if (startOf(g) != other.startOf(g)) {
                    return false;
                }
            }
            return true;
        }

        /** How many acts from the first one on both histories have alike. */
        int sameActs(Sower other) {
            int end = Math.min(size, other.size);
            int k = 0;
            while (k < end && kindOf(k) == other.kindOf(k) && lowOf(k) == other.lowOf(k)
                    && highOf(k) == other.highOf(k)) {
                k++;
            }
            return k;
        }

        void writeBirth(StringBuilder to) {
            to.append(first);
            to.append(',');
            to.append(second);
            for (int g = 0; g < generation; g++) {
                to.append(' ');
                to.append('(');
                writeActs(to, startOf(g), endOf(g));
                to.append(')');
            }
        }

        void writeActs(StringBuilder to, int from, int end) {
            for (int k = from; k < end; k++) {
                if (k > from) {
                    to.append(' ');
                }
                writeAct(to, k);
            }
        }

        // The lengths are reckoned, as texts made for each digest would fill the room.
        int birthLength() {
            int length = lengthOf(first) + 1 + lengthOf(second);
            for (int g = 0; g < generation; g++) {
                length += 3 + rowLength(g);
            }
            return length;
        }

        int rowLength(int g) {
            int length = Math.max(0, endOf(g) - startOf(g) - 1);
            for (int k = startOf(g); k < endOf(g); k++) {
                length += actLength(k);
            }
            return length;
        }

        private void keep(int kind, int low, int high) {
            if (size >= 0 && size < HISTORY) {
                kinds[size] = kind;
                lows[size] = low;
                highs[size] = high;
                size++;
            }
        }

        private long drawBy(Source drawer, int k, Source child) {
            if (kindOf(k) == SPLIT) {
                drawer.splitInto(child);
                return 0;
            }
            return drawer.next(kindOf(k), lowOf(k), highOf(k));
        }

        private void writeAct(StringBuilder to, int k) {
            switch (kindOf(k)) {
                case WHOLE:
                    to.append('i');
                    break;
                case BELOW:
                    to.append('b');
                    to.append(highOf(k));
                    break;
                case BETWEEN:
                    to.append('r');
                    to.append(lowOf(k));
                    to.append(':');
                    to.append(highOf(k));
                    break;
                case LONG:
                    to.append('l');
                    break;
                case COIN:
                    to.append('z');
                    break;
                default:
                    to.append('s');
                    break;
            }
        }

        private int actLength(int k) {
            switch (kindOf(k)) {
                case BELOW:
                    return 1 + lengthOf(highOf(k));
                case BETWEEN:
                    return 2 + lengthOf(lowOf(k)) + lengthOf(highOf(k));
                default:
                    return 1;
            }
        }

        private static int lengthOf(int number) {
            int sign = number < 0 ? 1 : 0;
            long left = Math.abs((long) number);
            int digits = 1;
            while (digits < MOST_DIGITS && left >= 10) {
                left /= 10;
                digits++;
            }
            return sign + digits;
        }

        private int startOf(int g) {
            return g < 0 || g >= starts.length ? 0 : starts[g];
        }

        private int endOf(int g) {
            return g < generation ? startOf(g + 1) : size;
        }

        private int kindOf(int k) {
            return k < 0 || k >= kinds.length ? 0 : kinds[k];
        }

        private int lowOf(int k) {
            return k < 0 || k >= lows.length ? 0 : lows[k];
        }

        private int highOf(int k) {
            return k < 0 || k >= highs.length ? 0 : highs[k];
        }
    }
}
