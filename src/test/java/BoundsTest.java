/** Too small and too large, just inside and just outside, sentence by sentence. */
public final class BoundsTest {
    private static final int MIN = Checks.MIN;
    private static final int MAX = Checks.MAX;

    public static void main(String[] args) {
        noSowerToBegin();
        noSowerForAnAct();
        noSowerToDraw();
        noSowerToSplit();
        noSowerForAgain();
        noSowerToGoBack();
        noSowerToAsk();
        noSowerToAskOfTwo();
        noSowerForBoth();
        firstAndLastSower();
        sowersOnBothSides();
        manyOfBack();
        whatOfSower();
        whatOfHouse();
        kindOfCount();
        timesOfDraw();
        timesOfWithin();
        timesOfTogether();
        timesOfPairs();
        timesOfChildren();
        aheadOfChildren();
        actOfRow();
        fromOfOnly();
        generations();
        seeds();
        callsOfOneObject();
        Checks.end();
    }

    private static void threwIndex(Checks.Call call) {
        Checks.threw(Checks.INDEX, Checks.BUSY, call);
    }

    private static void threwArgument(Checks.Call call) {
        Checks.threw(Checks.ARGUMENT, Checks.BUSY, call);
    }

    // ---- if there is no such SOWER

    private static void noSowerToBegin() {
        Checks.sentence("2 begin: if there is no such SOWER");
        for (int no : Checks.NO_SOWERS) {
            threwIndex(x -> x.begin(no, 1, 2));
        }
    }

    private static void noSowerForAnAct() {
        for (int no : Checks.NO_SOWERS) {
            Checks.sentence("3 whole: if there is no such SOWER");
            threwIndex(x -> x.whole(no));
            Checks.sentence("4 below: if there is no such SOWER");
            threwIndex(x -> x.below(no, 1));
            threwIndex(x -> x.below(no, 7));
            Checks.sentence("5 between: if there is no such SOWER");
            threwIndex(x -> x.between(no, 1, 2));
            Checks.sentence("6 only: if there is no such SOWER");
            threwIndex(x -> x.only(no, 1));
            Checks.sentence("7 longer: if there is no such SOWER");
            threwIndex(x -> x.longer(no));
            Checks.sentence("8 coin: if there is no such SOWER");
            threwIndex(x -> x.coin(no));
        }
    }

    private static void noSowerToDraw() {
        Checks.sentence("9 draw: if there is no such SOWER");
        for (int no : Checks.NO_SOWERS) {
            threwIndex(x -> x.draw(no, 2, 1));
            threwIndex(x -> x.draw(no, 2, 20));
        }
    }

    private static void noSowerToSplit() {
        Checks.sentence("10 split: if there is no such SOWER (both)");
        for (int no : Checks.NO_SOWERS) {
            threwIndex(x -> x.split(no, 0));
            threwIndex(x -> x.split(no, 5));
            threwIndex(x -> x.split(0, no));
            threwIndex(x -> x.split(5, no));
            threwIndex(x -> x.split(no, no));
        }
    }

    private static void noSowerForAgain() {
        Checks.sentence("11 again: if there is no such SOWER (both)");
        for (int no : Checks.NO_SOWERS) {
            threwIndex(x -> x.again(no, 0));
            threwIndex(x -> x.again(no, 5));
            threwIndex(x -> x.again(0, no));
            threwIndex(x -> x.again(5, no));
            threwIndex(x -> x.again(no, no));
        }
    }

    private static void noSowerToGoBack() {
        Checks.sentence("12 back: if there is no such SOWER");
        for (int no : Checks.NO_SOWERS) {
            threwIndex(x -> x.back(no, 0));
        }
    }

    private static void noSowerToAsk() {
        for (int no : Checks.NO_SOWERS) {
            Checks.sentence("13 ofSower: if there is no such SOWER");
            threwIndex(x -> x.ofSower(no, 0));
            threwIndex(x -> x.ofSower(no, 4));
            Checks.sentence("14 row: if there is no such SOWER");
            threwIndex(x -> x.row(no));
            Checks.sentence("15 birth: if there is no such SOWER");
            threwIndex(x -> x.birth(no));
            Checks.sentence("16 act: if there is no such SOWER");
            threwIndex(x -> x.act(no, 0));
            Checks.sentence("17 count: if there is no such SOWER");
            threwIndex(x -> x.count(no, 0));
            threwIndex(x -> x.count(no, 5));
            Checks.sentence("18 within: if there is no such SOWER");
            threwIndex(x -> x.within(no, 0, 1, 1));
            Checks.sentence("19 tried: if there is no such SOWER");
            threwIndex(x -> x.tried(no));
        }
    }

    private static void noSowerToAskOfTwo() {
        for (int no : Checks.NO_SOWERS) {
            for (int sower : new int[] {0, 5}) {
                Checks.sentence("20 areLike: if there is no such SOWER (both)");
                threwIndex(x -> x.areLike(no, sower));
                threwIndex(x -> x.areLike(sower, no));
                Checks.sentence("21 areTwins: if there is no such SOWER (both)");
                threwIndex(x -> x.areTwins(no, sower));
                threwIndex(x -> x.areTwins(sower, no));
                Checks.sentence("22 common: if there is no such SOWER (both)");
                threwIndex(x -> x.common(no, sower));
                threwIndex(x -> x.common(sower, no));
                Checks.sentence("23 together: if there is no such SOWER (both)");
                threwIndex(x -> x.together(no, sower, 1));
                threwIndex(x -> x.together(sower, no, 1));
            }
            Checks.sentence("20 to 23: if there is no such SOWER (both, and the same)");
            threwIndex(x -> x.areLike(no, no));
            threwIndex(x -> x.areTwins(no, no));
            threwIndex(x -> x.common(no, no));
            threwIndex(x -> x.together(no, no, 1));
        }
    }

    private static void noSowerForBoth() {
        Checks.sentence("24 both: if there is no such SOWER (both)");
        for (int no : Checks.NO_SOWERS) {
            threwIndex(x -> x.both(no, 0));
            threwIndex(x -> x.both(no, 5));
            threwIndex(x -> x.both(0, no));
            threwIndex(x -> x.both(5, no));
            threwIndex(x -> x.both(no, no));
        }
    }

    // ---- just inside

    private static void firstAndLastSower() {
        Checks.sentence("1. Sowers: there are SOWERS 0 to 5");
        for (int sower : new int[] {0, 5}) {
            Splitseed x = new Splitseed();
            Checks.due(0, x.begin(sower, 1, 2));
            Checks.due(true, x.whole(sower));
            Checks.due(1, x.below(sower, 2));
            Checks.due(1, x.between(sower, 0, 2));
            Checks.due(3, x.only(sower, 3));
            Checks.due(true, x.longer(sower));
            Checks.due(true, x.coin(sower));
            Checks.due(1, x.draw(sower, 2, 1));
            Checks.due("i b2 r0:2 r3:4 l z b2", x.row(sower));
            Checks.due("1,2", x.birth(sower));
            Checks.due("b2", x.act(sower, 6));
            Checks.due(7, x.ofSower(sower, 0));
            Checks.due(2, x.count(sower, 1));
            Checks.due(1, x.within(sower, 0, 1, 1));
            Checks.due(5, x.tried(sower));
            Checks.due(6, x.back(sower, 1));
        }
    }

    private static void sowersOnBothSides() {
        Checks.sentence("1. Sowers: there are SOWERS 0 to 5, on either side");
        for (int sower : new int[] {0, 5}) {
            int other = 5 - sower;
            Splitseed x = new Splitseed();
            Checks.due(true, x.areLike(sower, other));
            Checks.due(true, x.areTwins(sower, other));
            Checks.due(0, x.common(sower, other));
            Checks.due(1, x.together(sower, other, 1));
            Checks.due(1, x.both(sower, other));
            Checks.due(1, x.split(sower, other));
            Checks.due("i s", x.row(sower));
            Checks.due("0,0 (i)", x.birth(other));
            Checks.due(2, x.again(sower, other));
            Checks.due("i s", x.row(other));
        }
    }

    // ---- the other arguments

    private static void manyOfBack() {
        Checks.sentence("12 back: if many is below 0, or more than its ROW has");
        for (int size : new int[] {0, 1, 2, 59, 60}) {
            Checks.State state = x -> {
                x.begin(3, 1, -1);
                Checks.acts(x, 3, size);
            };
            for (int many : new int[] {-1, size + 1, MIN, MAX}) {
                Checks.threw(Checks.ARGUMENT, state, x -> x.back(3, many));
            }
            Checks.due(0, state, x -> x.back(3, size));
            Checks.due(size, state, x -> x.back(3, 0));
            if (size > 0) {
                Checks.due(1, state, x -> x.back(3, size - 1));
                Checks.due(size - 1, state, x -> x.back(3, 1));
            }
        }
        Checks.sentence("12 back: more than its ROW has, and not its BIRTH or another's ROW");
        Checks.threw(Checks.ARGUMENT, x -> {
            Checks.acts(x, 0, 9);
            x.split(0, 1);
            x.coin(1);
        }, x -> x.back(1, 2));
    }

    private static void whatOfSower() {
        Checks.sentence("13 ofSower: if what is not 0 to 4");
        for (int what : new int[] {-1, 5, MIN, MAX}) {
            threwArgument(x -> x.ofSower(0, what));
            threwArgument(x -> x.ofSower(5, what));
        }
        Splitseed x = Checks.at(Checks.BUSY);
        Checks.due(2, x.ofSower(2, 0));
        Checks.due(1, x.ofSower(2, 1));
        Checks.due(3, x.ofSower(2, 2));
        Checks.due(-4, x.ofSower(2, 3));
        Checks.due(3, x.ofSower(2, 4));
    }

    private static void whatOfHouse() {
        Checks.sentence("28 house: if what is not 0 to 4");
        for (int what : new int[] {-1, 5, MIN, MAX}) {
            threwArgument(x -> x.house(what));
        }
        Splitseed x = Checks.at(Checks.BUSY);
        Checks.due(11, x.house(0));
        Checks.due(0, x.house(1));
        Checks.due(2, x.house(2));
        Checks.due(1, x.house(3));
        Checks.due(1, x.house(4));
    }

    private static void kindOfCount() {
        Checks.sentence("17 count: if kind is not 0 to 5");
        for (int kind : new int[] {-1, 6, MIN, MAX}) {
            threwArgument(x -> x.count(1, kind));
            threwArgument(x -> x.count(5, kind));
        }
        Splitseed x = Checks.at(Checks.BUSY);
        int[] counts = {1, 0, 1, 0, 0, 1};
        for (int kind = 0; kind <= 5; kind++) {
            Checks.due(counts[kind], x.count(1, kind));
        }
    }

    private static void timesOfDraw() {
        Checks.sentence("9 draw: if times is not 1 to 20");
        for (int times : new int[] {0, 21, -1, MIN, MAX}) {
            threwArgument(x -> x.draw(3, 4, times));
        }
        for (int times : new int[] {1, 2, 19, 20}) {
            Checks.due(times, Checks.BUSY, x -> x.draw(3, 4, times));
            Splitseed x = new Splitseed();
            x.draw(0, 4, times);
            Checks.due(times, x.ofSower(0, 0));
        }
    }

    private static void timesOfWithin() {
        Checks.sentence("18 within: if times is not 1 to 40");
        for (int times : new int[] {0, 41, -1, MIN, MAX}) {
            threwArgument(x -> x.within(3, 4, 5, times));
        }
        for (int times : new int[] {1, 2, 39, 40}) {
            Checks.due(times, Checks.BUSY, x -> x.within(3, 4, 5, times));
            Checks.due(times, Checks.FULL_ONES, x -> x.within(0, -4, 5, times));
        }
    }

    private static void timesOfTogether() {
        Checks.sentence("23 together: if times is not 1 to 40");
        for (int times : new int[] {0, 41, -1, MIN, MAX}) {
            Checks.threw(Checks.ARGUMENT, Checks.FULL_ONES, x -> x.together(0, 2, times));
            threwArgument(x -> x.together(3, 3, times));
        }
        for (int times : new int[] {1, 2, 39, 40}) {
            Checks.due(times, Checks.FULL_ONES, x -> x.together(0, 2, times));
            Checks.due(times, Checks.BUSY, x -> x.together(3, 3, times));
        }
    }

    private static void timesOfPairs() {
        Checks.sentence("25 pairs: if times is not 1 to 40");
        for (int times : new int[] {0, 41, -1, MIN, MAX}) {
            threwArgument(x -> x.pairs(3, -4, times));
        }
        for (int times : new int[] {1, 2, 39, 40}) {
            Checks.due(times, Checks.BUSY, x -> x.pairs(3, -4, times));
        }
    }

    private static void timesOfChildren() {
        Checks.sentence("26 children: if times not 1 to 40");
        for (int times : new int[] {0, 41, -1, MIN, MAX}) {
            threwArgument(x -> x.children(3, -4, 0, times));
            threwArgument(x -> x.children(3, -4, 20, times));
        }
        for (int times : new int[] {1, 2, 39, 40}) {
            Checks.due(times, Checks.BUSY, x -> x.children(3, -4, 5, times));
        }
    }

    private static void aheadOfChildren() {
        for (int ahead : new int[] {-1, 21, MIN, MAX}) {
            Checks.sentence("26 children: if ahead is not 0 to 20");
            threwArgument(x -> x.children(3, -4, ahead, 1));
            threwArgument(x -> x.children(3, -4, ahead, 40));
            Checks.sentence("26 children: if ahead is not 0 to 20, or times not 1 to 40 (neither)");
            threwArgument(x -> x.children(3, -4, ahead, 0));
            threwArgument(x -> x.children(3, -4, ahead, 41));
        }
        Checks.sentence("26 children: ahead is 0 to 20");
        for (int ahead : new int[] {0, 1, 19, 20}) {
            Checks.due(6, Checks.BUSY, x -> x.children(3, -4, ahead, 6));
        }
    }

    private static void actOfRow() {
        Checks.sentence("16 act: if there is no such ACT");
        for (int size : new int[] {0, 1, 2, 59, 60}) {
            Checks.State state = x -> {
                x.begin(4, -1, 1);
                Checks.acts(x, 4, size);
            };
            for (int k : new int[] {-1, size, size + 1, MIN, MAX}) {
                Checks.threw(Checks.INDEX, state, x -> x.act(4, k));
            }
            if (size > 0) {
                Checks.due(size == 60 ? "b1020" : "b" + (1000 + size % 20), state,
                        x -> x.act(4, size - 1));
            }
        }
        Checks.sentence("16 act: k counts the ACTS of its ROW, and not those of its BIRTH");
        Checks.State born = x -> {
            x.coin(0);
            x.longer(0);
            x.split(0, 1);
            x.whole(1);
        };
        Checks.due("i", born, x -> x.act(1, 0));
        Checks.threw(Checks.INDEX, born, x -> x.act(1, -1));
        Checks.threw(Checks.INDEX, born, x -> x.act(1, 1));
        Checks.threw(Checks.INDEX, born, x -> x.act(1, 2));
        Checks.sentence("16 act: if there is no such ACT any more");
        Checks.threw(Checks.INDEX, x -> {
            x.draw(0, 5, 3);
            x.back(0, 2);
        }, x -> x.act(0, 2));
        Checks.threw(Checks.INDEX, x -> {
            x.draw(0, 5, 3);
            x.begin(0, 0, 0);
        }, x -> x.act(0, 0));
    }

    private static void fromOfOnly() {
        Checks.sentence("6 only: if from is the greatest number of 32 bits");
        threwArgument(x -> x.only(3, MAX));
        for (int from : new int[] {MAX - 1, MAX - 2, MIN, MIN + 1, -1, 0, 1}) {
            Checks.sentence("6 only: returns what is drawn");
            Splitseed x = new Splitseed();
            Checks.due(from, x.only(3, from));
            Checks.due("r" + from + ":" + (from + 1), x.row(3));
        }
    }

    private static void generations() {
        Checks.sentence("10 split: if its GENERATION is 4");
        Checks.threw(Checks.STATE, Checks.DEEP, x -> x.split(4, 5));
        Checks.threw(Checks.STATE, Checks.DEEP, x -> x.split(4, 0));
        Checks.threw(Checks.STATE, Checks.DEEP, x -> x.split(4, 3));
        Checks.sentence("10 split: returns the GENERATION of that");
        for (int sower = 0; sower <= 3; sower++) {
            int parent = sower;
            Checks.due(parent + 1, Checks.DEEP, x -> x.split(parent, 5));
        }
        Checks.due(1, Checks.DEEP, x -> x.split(5, 4));
        Checks.sentence("1. Sowers: GENERATION, 0 of one that was begun with a SEED");
        Splitseed x = Checks.at(Checks.DEEP);
        for (int sower = 0; sower <= 4; sower++) {
            Checks.due(sower, x.ofSower(sower, 1));
        }
        Checks.due(4, x.house(2));
        Checks.due(1, x.begin(4, 1, 1));
        Checks.due(0, x.ofSower(4, 1));
        Checks.due(3, x.house(2));
        Checks.due(1, x.split(4, 5));
    }

    private static void seeds() {
        for (int first : new int[] {MIN, -1, 0, 1, MAX}) {
            for (int second : new int[] {MIN, -1, 0, 1, MAX}) {
                Checks.sentence("2 begin: a SEED of " + first + "," + second);
                Splitseed x = new Splitseed();
                Checks.due(0, x.begin(2, first, second));
                Checks.due(first + "," + second, x.birth(2));
                Checks.due(first, x.ofSower(2, 2));
                Checks.due(second, x.ofSower(2, 3));
                Checks.due(first == 0 && second == 0, x.areTwins(2, 3));
                Checks.due(true, x.whole(2));
                Checks.due(1, x.split(2, 4));
                Checks.due(true, x.longer(4));
                Checks.due(first + "," + second + " (i)", x.birth(4));
                Checks.due(first, x.ofSower(4, 2));
                Checks.due(second, x.ofSower(4, 3));
                Checks.due(5, x.tried(4));
                Checks.due(4, x.pairs(first, second, 4));
                Checks.due(4, x.children(first, second, 4, 4));
            }
        }
    }

    private static void callsOfOneObject() {
        Checks.sentence("What it is: an object is used for at most 512 calls");
        Splitseed x = new Splitseed();
        for (int call = 1; call < 512; call++) {
            Checks.due(call, x.knock());
        }
        Checks.due(511, x.house(4));
    }
}
