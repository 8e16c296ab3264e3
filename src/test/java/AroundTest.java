import java.math.BigInteger;
import java.util.ArrayList;
import java.util.List;

/** The digest, which wraps around, bounds at both ends of 32 bits, and what always holds. */
public final class AroundTest {
    private static final int MIN = Checks.MIN;
    private static final int MAX = Checks.MAX;

    public static void main(String[] args) {
        digestWrapsAround();
        digestOfKnownOnes();
        digestTellsEachPart();
        digestTellsLengths();
        digestChangesNothing();
        belowAtTheEnds();
        betweenAtTheEnds();
        oneNumberAlone();
        sameRowByOtherCalls();
        parentBecomesAnother();
        childBecomesItsParent();
        splitOfLikeOnes();
        backBehindASplit();
        questionsDrawNothing();
        Checks.end();
    }

    // ---- digest

    private static void digestWrapsAround() {
        Checks.sentence("30 digest: d becomes d * 31 + v, which wraps around");
        Checks.State[] states = {Checks.NEW, Checks.BUSY, Checks.FULL_ONES, Checks.DEEP,
            AroundTest::allSeedsLeast, AroundTest::allSeedsGreatest};
        for (Checks.State state : states) {
            dueDigest(state);
        }
    }

    private static void dueDigest(Checks.State state) {
        Splitseed x = Checks.at(state);
        BigInteger d = BigInteger.valueOf(7732);
        for (long v : told(x)) {
            d = d.multiply(BigInteger.valueOf(31)).add(BigInteger.valueOf(v));
        }
        Checks.due(true, d.bitLength() > 500);
        Checks.due(d.longValue(), x.digest());
    }

    private static void allSeedsLeast(Splitseed x) {
        for (int sower = 0; sower <= 5; sower++) {
            x.begin(sower, MIN, MIN);
        }
    }

    private static void allSeedsGreatest(Splitseed x) {
        for (int sower = 0; sower <= 5; sower++) {
            x.begin(sower, MAX, MAX);
            x.between(sower, MIN, MAX);
        }
    }

    /** Each v of the digest, in the document's order. */
    private static List<Long> told(Splitseed x) {
        List<Long> all = new ArrayList<>();
        for (int what = 0; what <= 4; what++) {
            all.add((long) x.house(what));
        }
        for (int sower = 0; sower <= 5; sower++) {
            for (int what = 0; what <= 4; what++) {
                all.add((long) x.ofSower(sower, what));
            }
            all.add((long) x.row(sower).length());
            all.add((long) x.birth(sower).length());
            for (int kind = 0; kind <= 5; kind++) {
                all.add((long) x.count(sower, kind));
            }
            all.add((long) x.tried(sower));
        }
        for (int sower = 0; sower <= 5; sower++) {
            for (int other = sower + 1; other <= 5; other++) {
                all.add(x.areLike(sower, other) ? 1L : 0L);
                all.add((long) x.common(sower, other));
            }
        }
        all.add(x.isSound() ? 1L : 0L);
        return all;
    }

    // Of a new one: house() 0, 15, 0, 0, 0; six times 0 0 0 0 0, 0 3, 0 0 0 0 0 0, 5; fifteen times
    // 1 0; 1.
    private static void digestOfKnownOnes() {
        Checks.sentence("30 digest: of a new object");
        BigInteger d = BigInteger.valueOf(7732);
        d = with(d, 0, 15, 0, 0, 0);
        for (int sower = 0; sower <= 5; sower++) {
            d = with(d, 0, 0, 0, 0, 0, 0, 3, 0, 0, 0, 0, 0, 0, 5);
        }
        for (int two = 0; two < 15; two++) {
            d = with(d, 1, 0);
        }
        d = with(d, 1);
        Checks.due(d.longValue(), new Splitseed().digest());

        Checks.sentence("30 digest: of one SOWER that is none of the others' BIRTH");
        Splitseed x = new Splitseed();
        x.begin(0, -12, 3);
        x.below(0, 1);
        x.below(0, 0);
        x.knock();
        d = with(BigInteger.valueOf(7732), 1, 10, 0, 1, 1);
        d = with(d, 1, 0, -12, 3, 0, 2, 5, 0, 1, 0, 0, 0, 0, 5);
        for (int sower = 1; sower <= 5; sower++) {
            d = with(d, 0, 0, 0, 0, 0, 0, 3, 0, 0, 0, 0, 0, 0, 5);
        }
        for (int two = 0; two < 15; two++) {
            d = two < 5 ? with(d, 0, -1) : with(d, 1, 0);
        }
        d = with(d, 1);
        Checks.due(d.longValue(), x.digest());
    }

    private static BigInteger with(BigInteger digest, int... values) {
        BigInteger d = digest;
        for (int v : values) {
            d = d.multiply(BigInteger.valueOf(31)).add(BigInteger.valueOf(v));
        }
        return d;
    }

    private static void digestTellsEachPart() {
        Checks.sentence("30 digest: for each v");
        List<Checks.State> changes = List.of(Splitseed::knock, x -> x.below(0, 0),
                x -> x.begin(5, 0, 1), x -> x.begin(5, 1, 0), x -> x.whole(5), x -> x.longer(5),
                x -> x.coin(5), x -> x.below(5, 1), x -> x.between(5, 0, 1), x -> x.split(5, 4),
                x -> x.split(4, 5), x -> x.both(0, 5));
        List<Long> digests = new ArrayList<>();
        digests.add(new Splitseed().digest());
        for (Checks.State change : changes) {
            long digest = Checks.at(change).digest();
            Checks.due(false, digests.contains(digest));
            digests.add(digest);
        }
    }

    private static void digestTellsLengths() {
        for (int power = 1; power > 0 && power <= 1_000_000_000; power *= 10) {
            for (int n : new int[] {power - 1, power, power + 1, MAX, MIN}) {
                Checks.sentence("30 digest: the lengths of row() and birth(), with " + n);
                dueDigest(x -> numbersOf(x, n));
                dueDigest(x -> numbersOf(x, -n));
            }
        }
    }

    private static void numbersOf(Splitseed x, int n) {
        x.begin(0, n, 0);
        x.begin(1, 0, n);
        x.below(2, n);
        x.between(3, n, MAX);
        x.between(4, MIN, n);
        x.split(3, 5);
    }

    private static void digestChangesNothing() {
        Checks.sentence("30 digest: computes, and changes nothing");
        Splitseed x = Checks.at(Checks.BUSY);
        long digest = x.digest();
        List<String> asked = Checks.asked(x);
        Checks.due(digest, x.digest());
        Checks.due(digest, x.digest());
        Checks.due(asked, Checks.asked(x));
        Checks.due(digest, Checks.at(Checks.BUSY).digest());
    }

    // ---- bounds at both ends of 32 bits

    private static void belowAtTheEnds() {
        Checks.sentence("4 below, 9 draw: a draw below a number is 0 or more and less than it");
        for (int n : new int[] {1, 2, 3, (1 << 30) - 1, 1 << 30, (1 << 30) + 1, MAX - 1, MAX}) {
            for (int seed : new int[] {MIN, -1, 0, 1, MAX}) {
                Splitseed x = new Splitseed();
                x.begin(0, seed, n);
                for (int i = 0; i < 20; i++) {
                    Checks.due(n == 1 ? 0 : 1, x.below(0, n));
                }
                Checks.due(20, x.draw(0, n, 20));
                Checks.due(40, x.within(0, 0, n, 40));
                Checks.due("b" + n, x.act(0, 39));
            }
        }
    }

    private static void betweenAtTheEnds() {
        Checks.sentence("5 between, 18 within: the first or more and less than the second");
        int[][] bounds = {{MIN, MAX}, {MIN, MIN + 1}, {MIN, MIN + 2}, {MAX - 1, MAX},
            {MAX - 2, MAX}, {MIN, 0}, {MIN, 1}, {-1, MAX}, {0, MAX}, {MIN + 1, MAX}, {MIN, MAX - 1},
            {-1, 0}, {-1, 1}, {-(1 << 30), 1 << 30}};
        for (int[] two : bounds) {
            for (int seed : new int[] {MIN, -1, 0, 1, MAX}) {
                Splitseed x = new Splitseed();
                x.begin(0, two[0], seed);
                for (int i = 0; i < 40; i++) {
                    Checks.due(1, x.between(0, two[0], two[1]));
                }
                Checks.due("r" + two[0] + ":" + two[1], x.act(0, 39));
                Checks.due(40, x.within(0, two[0], two[1], 40));
                Checks.due(5, x.tried(0));
            }
        }
    }

    private static void oneNumberAlone() {
        Checks.sentence("What always holds: if there is but one such number it is that one");
        Splitseed x = new Splitseed();
        for (int from = -20; from < 20; from++) {
            Checks.due(from, x.only(0, from));
        }
        for (int i = 0; i < 20; i++) {
            Checks.due(0, x.below(0, 1));
        }
        Checks.due(MIN, x.only(1, MIN));
        Checks.due(MAX - 1, x.only(1, MAX - 1));
        Checks.due(true, x.whole(1));
    }

    // ---- what always holds

    private static void sameRowByOtherCalls() {
        Checks.sentence("What always holds: whenever and wherever they came to it");
        Splitseed x = new Splitseed();
        x.draw(0, 1, 3);
        for (int i = 0; i < 3; i++) {
            x.below(1, 1);
        }
        Checks.due(true, x.areLike(0, 1));
        Checks.due(1, x.both(0, 1));
        x.only(0, 8);
        x.between(1, 8, 9);
        Checks.due(true, x.areLike(0, 1));
        Checks.due(1, x.both(0, 1));
        x.both(0, 3);
        x.whole(1);
        Checks.due(true, x.areLike(0, 1));
        x.split(0, 4);
        x.split(1, 5);
        Checks.due(true, x.areLike(0, 1));
        Checks.due(1, x.both(0, 1));
        Checks.due(1, x.both(4, 5));
        Checks.due(true, x.isSound());
    }

    private static void parentBecomesAnother() {
        List<Checks.State> changes = List.of(x -> x.begin(0, 9, 9), x -> x.back(0, 0),
                x -> x.back(0, 2), x -> x.again(5, 0), x -> x.split(5, 0), x -> x.draw(0, 3, 20),
                x -> x.split(0, 5), x -> x.split(1, 0), x -> x.both(0, 1), x -> x.again(0, 0));
        for (Checks.State change : changes) {
            Checks.sentence("What always holds: whatever becomes of the one of which it was split");
            Splitseed x = new Splitseed();
            for (int sower = 0; sower <= 2; sower += 2) {
                x.begin(sower, 5, 6);
                x.draw(sower, 9, 3);
                x.split(sower, sower + 1);
            }
            Checks.due(true, x.areLike(1, 3));
            change.bring(x);
            Checks.due("5,6 (b9 b9 b9)", x.birth(1));
            // The change may have done an act of the child's own.
            while (x.ofSower(3, 0) < x.ofSower(1, 0)) {
                String act = x.act(1, x.ofSower(3, 0));
                Checks.due(true, act.equals("s") ? x.split(3, 4) == 2 : x.whole(3));
            }
            Checks.due(1, x.both(1, 3));
            Checks.due(true, x.longer(1));
            Checks.due(1, x.below(1, 1000));
            Checks.due(5, x.tried(1));
        }
    }

    private static void childBecomesItsParent() {
        Checks.sentence("10 split: onto the one of which it was split itself");
        Splitseed x = new Splitseed();
        x.coin(0);
        x.split(0, 1);
        x.longer(1);
        Checks.due(2, x.split(1, 0));
        Checks.due("0,0 (z) (l)", x.birth(0));
        Checks.due("l s", x.row(1));
        Checks.due("0,0 (z)", x.birth(1));
        Checks.due(3, x.split(0, 1));
        Checks.due("0,0 (z) (l) ()", x.birth(1));
        Checks.due(4, x.split(1, 0));
        Checks.due("0,0 (z) (l) () ()", x.birth(0));
        Checks.due(true, x.whole(0));
        Checks.due(true, x.whole(1));
        Checks.threw(Checks.STATE, x, y -> y.split(0, 1));
        Checks.due(4, x.split(1, 0));
        Checks.due("0,0 (z) (l) () (s i)", x.birth(0));
        Checks.due(true, x.isSound());
    }

    private static void splitOfLikeOnes() {
        Checks.sentence("What always holds: two that are split off of ones that were LIKE are LIKE");
        Splitseed x = Checks.at(Checks.BUSY);
        x.again(2, 5);
        x.split(2, 0);
        x.whole(2);
        x.split(5, 3);
        Checks.due(true, x.areLike(0, 3));
        Checks.due(40, x.together(0, 3, 40));
        Checks.due(1, x.both(0, 3));
        Checks.sentence("What always holds: the first and the second split of the same one differ");
        x.split(5, 3);
        x.back(0, 0);
        Checks.due(false, x.areTwins(0, 3));
        Checks.due("3,-4 (b6 b6 b6) (i r-5:5)", x.birth(0));
        Checks.due("3,-4 (b6 b6 b6) (i r-5:5 s)", x.birth(3));
    }

    private static void backBehindASplit() {
        Checks.sentence("12 back: behind a SPLIT, which is done again");
        Splitseed x = new Splitseed();
        x.split(0, 1);
        x.whole(0);
        x.whole(0);
        Checks.due(1, x.back(0, 2));
        Checks.due("s i", x.row(0));
        Checks.due(true, x.whole(0));
        Checks.sentence("12 back: ahead of a SPLIT, and the one that was split off stays");
        Checks.due(3, x.back(0, 0));
        Checks.due("0,0 ()", x.birth(1));
        Checks.due(1, x.split(0, 2));
        Checks.due(true, x.areLike(1, 2));
        Checks.due(1, x.both(1, 2));
    }

    private static void questionsDrawNothing() {
        Checks.sentence("What always holds: what is asked changes nothing of what is drawn");
        Splitseed x = Checks.at(Checks.BUSY);
        x.again(1, 5);
        x.tried(1);
        x.within(1, 0, 9, 40);
        x.together(1, 5, 40);
        x.together(1, 1, 40);
        x.pairs(3, -4, 40);
        x.children(3, -4, 20, 40);
        x.isSound();
        x.digest();
        Checks.due("i r-5:5 s", x.row(1));
        Checks.due(true, x.whole(1));
        Checks.due(true, x.whole(5));
        Checks.due(1, x.both(1, 5));
        for (int sower = 0; sower <= 5; sower++) {
            Checks.due(true, x.longer(sower));
        }
    }
}
