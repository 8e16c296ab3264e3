/** What is refused, and what is not: NONE, and numbers that only look like REFUSED. */
public final class RefusedTest {
    private static final int MIN = Checks.MIN;
    private static final int MAX = Checks.MAX;
    private static final int[][] NOT_LESS = {{0, 0}, {1, 0}, {5, 5}, {5, 4}, {-4, -5}, {-5, -5},
        {1, -1}, {MIN, MIN}, {MAX, MAX}, {MAX, MIN}, {MIN + 1, MIN}, {MAX, MAX - 1}, {0, MIN},
        {MAX, 0}};
    private static final int[][] LESS = {{0, 1}, {4, 5}, {-5, -4}, {-1, 1}, {MIN, MIN + 1},
        {MAX - 1, MAX}, {MIN, MAX}, {MIN, 0}, {0, MAX}, {-1, MAX}, {MIN, -1}};
    private static final int[] BELOW_ONE = {0, -1, -9, MIN, MIN + 1};

    public static void main(String[] args) {
        belowRefuses();
        drawRefuses();
        betweenRefuses();
        withinRefuses();
        togetherRefuses();
        exceptionsGoAheadInActs();
        exceptionsGoAheadInQuestions();
        refusalsAreCountedEver();
        throwsAreNotCounted();
        noneIsNotRefused();
        numbersThatLookRefused();
        refusedOnesStayLike();
        Checks.end();
    }

    // ---- where it is told

    private static void belowRefuses() {
        Checks.sentence("4 below: REFUSED if n is below 1");
        for (int n : BELOW_ONE) {
            Checks.refused(Checks.NEW, x -> x.below(0, n));
            Checks.refused(Checks.BUSY, x -> x.below(1, n));
            Checks.refused(Checks.FULL_ONES, x -> x.below(1, n));
            Checks.refused(Checks.DEEP, x -> x.below(4, n));
        }
        Checks.sentence("4 below: returns 0 if n is 1; otherwise 1");
        Checks.due(0, Checks.BUSY, x -> x.below(1, 1));
        for (int n : new int[] {2, 3, MAX - 1, MAX}) {
            Checks.due(1, Checks.BUSY, x -> x.below(1, n));
        }
    }

    private static void drawRefuses() {
        Checks.sentence("9 draw: REFUSED if n is below 1");
        for (int n : BELOW_ONE) {
            Checks.refused(Checks.NEW, x -> x.draw(0, n, 20));
            Checks.refused(Checks.BUSY, x -> x.draw(1, n, 1));
            Checks.refused(Checks.FULL_ONES, x -> x.draw(1, n, 1));
            Checks.refused(Checks.DEEP, x -> x.draw(4, n, 7));
        }
        Checks.sentence("9 draw: returns how many are RIGHT");
        for (int n : new int[] {1, 2, MAX - 1, MAX}) {
            Checks.due(7, Checks.BUSY, x -> x.draw(1, n, 7));
        }
    }

    private static void betweenRefuses() {
        Checks.sentence("5 between: REFUSED if from is not less than to");
        for (int[] bounds : NOT_LESS) {
            Checks.refused(Checks.NEW, x -> x.between(0, bounds[0], bounds[1]));
            Checks.refused(Checks.BUSY, x -> x.between(1, bounds[0], bounds[1]));
            Checks.refused(Checks.FULL_ONES, x -> x.between(1, bounds[0], bounds[1]));
        }
        Checks.sentence("5 between: from is less than to");
        for (int[] bounds : LESS) {
            Splitseed x = Checks.at(Checks.BUSY);
            Checks.due(1, x.between(1, bounds[0], bounds[1]));
            Checks.due("i r-5:5 s r" + bounds[0] + ":" + bounds[1], x.row(1));
            Checks.due(1, x.house(3));
        }
    }

    private static void withinRefuses() {
        Checks.sentence("18 within: REFUSED if from is not less than to");
        for (int[] bounds : NOT_LESS) {
            Checks.refused(Checks.NEW, x -> x.within(0, bounds[0], bounds[1], 1));
            Checks.refused(Checks.BUSY, x -> x.within(1, bounds[0], bounds[1], 40));
            Checks.refused(Checks.FULL_ONES, x -> x.within(0, bounds[0], bounds[1], 3));
        }
        Checks.sentence("18 within: from is less than to");
        for (int[] bounds : LESS) {
            Checks.due(40, Checks.BUSY, x -> x.within(1, bounds[0], bounds[1], 40));
        }
    }

    private static void togetherRefuses() {
        Checks.sentence("23 together: REFUSED if both are not LIKE");
        Checks.State[] unlike = {
            x -> x.begin(0, 1, 0),
            x -> x.begin(0, 0, 1),
            x -> x.begin(0, 0, MIN),
            x -> x.whole(0),
            x -> x.split(0, 5),
            x -> x.split(5, 0),
            x -> x.below(0, 1),
            x -> {
                x.below(0, 4);
                x.between(1, 0, 4);
            },
            x -> {
                x.below(0, 4);
                x.below(1, 5);
            },
            x -> {
                x.between(0, 1, 4);
                x.between(1, 2, 4);
            },
            x -> {
                x.between(0, 1, 4);
                x.between(1, 1, 5);
            },
            x -> {
                x.whole(0);
                x.longer(0);
                x.longer(1);
                x.whole(1);
            },
            x -> {
                x.whole(0);
                x.split(0, 2);
                x.split(2, 0);
                x.split(3, 2);
                x.whole(2);
                x.split(2, 1);
            },
        };
        for (Checks.State state : unlike) {
            Checks.refused(state, x -> x.together(0, 1, 1));
            Checks.refused(state, x -> x.together(1, 0, 40));
            Checks.due(false, state, x -> x.areLike(0, 1));
        }
        Checks.sentence("23 together: both are LIKE");
        Checks.State like = x -> {
            x.only(0, 3);
            x.between(1, 3, 4);
            x.draw(0, 6, 2);
            x.below(1, 6);
            x.below(1, 6);
        };
        Checks.due(true, like, x -> x.areLike(0, 1));
        Checks.due(40, like, x -> x.together(0, 1, 40));
        Checks.due(40, like, x -> x.together(1, 0, 40));
        Checks.due(1, like, x -> x.both(0, 1));
    }

    // ---- exceptions go ahead of it

    private static void exceptionsGoAheadInActs() {
        for (int no : Checks.NO_SOWERS) {
            Checks.sentence("4 below: no such SOWER goes ahead of REFUSED");
            Checks.threw(Checks.INDEX, Checks.BUSY, x -> x.below(no, 0));
            Checks.sentence("5 between: no such SOWER goes ahead of REFUSED");
            Checks.threw(Checks.INDEX, Checks.BUSY, x -> x.between(no, 5, 5));
            Checks.sentence("9 draw: no such SOWER goes ahead of REFUSED");
            Checks.threw(Checks.INDEX, Checks.BUSY, x -> x.draw(no, 0, 1));
        }
        Checks.sentence("4 below: a ROW of 60 goes ahead of REFUSED");
        Checks.threw(Checks.STATE, Checks.FULL_ONES, x -> x.below(0, 0));
        Checks.threw(Checks.STATE, Checks.FULL_ONES, x -> x.below(0, MIN));
        Checks.sentence("5 between: a ROW of 60 goes ahead of REFUSED");
        Checks.threw(Checks.STATE, Checks.FULL_ONES, x -> x.between(0, 5, 5));
        Checks.threw(Checks.STATE, Checks.FULL_ONES, x -> x.between(0, MAX, MIN));
        Checks.sentence("9 draw: a ROW of more than 60 goes ahead of REFUSED");
        Checks.threw(Checks.STATE, Checks.FULL_ONES, x -> x.draw(0, 0, 1));
        Checks.threw(Checks.STATE, Checks.FULL_ONES, x -> x.draw(1, 0, 2));
        Checks.threw(Checks.STATE, Checks.FULL_ONES, x -> x.draw(1, MIN, 20));
        Checks.sentence("9 draw: times go ahead of REFUSED");
        Checks.threw(Checks.ARGUMENT, Checks.BUSY, x -> x.draw(1, 0, 0));
        Checks.threw(Checks.ARGUMENT, Checks.BUSY, x -> x.draw(1, 0, 21));
    }

    private static void exceptionsGoAheadInQuestions() {
        for (int no : Checks.NO_SOWERS) {
            Checks.sentence("18 within: no such SOWER goes ahead of REFUSED");
            Checks.threw(Checks.INDEX, Checks.BUSY, x -> x.within(no, 5, 5, 1));
        }
        Checks.sentence("18 within: times go ahead of REFUSED");
        for (int times : new int[] {0, 41, -1, MIN, MAX}) {
            Checks.threw(Checks.ARGUMENT, Checks.BUSY, x -> x.within(1, 5, 5, times));
            Checks.threw(Checks.ARGUMENT, Checks.BUSY, x -> x.within(1, MAX, MIN, times));
        }
        Checks.sentence("23 together: times go ahead of REFUSED");
        for (int times : new int[] {0, 41, -1, MIN, MAX}) {
            Checks.threw(Checks.ARGUMENT, Checks.BUSY, x -> x.together(0, 1, times));
        }
    }

    // ---- house() 3

    private static void refusalsAreCountedEver() {
        Checks.sentence("28 house: 3 how often REFUSED was told ever");
        Splitseed x = new Splitseed();
        int told = 0;
        for (int round = 0; round < 10; round++) {
            x.below(0, 0);
            Checks.due(++told, x.house(3));
            x.between(0, 0, 0);
            Checks.due(++told, x.house(3));
            x.draw(0, 0, 20);
            Checks.due(++told, x.house(3));
            x.within(0, 0, 0, 40);
            Checks.due(++told, x.house(3));
            x.begin(5, 7, round);
            x.together(0, 5, 40);
            Checks.due(++told, x.house(3));
        }
        Checks.due(15 - 5, x.house(1));
        x.whole(0);
        x.begin(0, 1, 1);
        x.again(5, 0);
        x.back(0, 0);
        x.split(0, 5);
        x.knock();
        x.isSound();
        x.digest();
        Checks.due(50, x.house(3));
        Checks.due(0, new Splitseed().house(3));
    }

    private static void throwsAreNotCounted() {
        Checks.sentence("28 house: 3, and not what threw");
        Splitseed x = Checks.at(Checks.FULL_ONES);
        Checks.threw(Checks.STATE, x, y -> y.below(0, 0));
        Checks.threw(Checks.STATE, x, y -> y.between(0, 0, 0));
        Checks.threw(Checks.STATE, x, y -> y.draw(0, 0, 1));
        Checks.threw(Checks.ARGUMENT, x, y -> y.draw(5, 0, 0));
        Checks.threw(Checks.ARGUMENT, x, y -> y.within(0, 0, 0, 0));
        Checks.threw(Checks.ARGUMENT, x, y -> y.together(0, 5, 0));
        Checks.threw(Checks.INDEX, x, y -> y.below(6, 0));
        Checks.due(0, x.house(3));
    }

    // ---- where it is not told

    private static void noneIsNotRefused() {
        Checks.sentence("22 common: NONE if they have not the same BIRTH, which is not REFUSED");
        Splitseed x = Checks.at(Checks.BUSY);
        Checks.due(Checks.NONE, x.common(0, 1));
        Checks.due(Checks.NONE, x.common(5, 4));
        Checks.due(1, x.house(3));
        Checks.sentence("24 both: NONE if they were not LIKE; both do the ACT");
        Checks.due(Checks.NONE, x.both(0, 1));
        Checks.due("b6 b6 b6 s i", x.row(0));
        Checks.due("i r-5:5 s i", x.row(1));
        Checks.due(Checks.NONE, x.both(3, 5));
        Checks.due("z l i", x.row(3));
        Checks.due("i", x.row(5));
        Checks.due(1, x.house(3));
        for (int sower = 0; sower <= 5; sower++) {
            Checks.due(5, x.tried(sower));
            Checks.due(true, x.longer(sower));
        }
        Checks.sentence("20 areLike, 21 areTwins: no is not REFUSED");
        Checks.due(false, x.areLike(0, 1));
        Checks.due(false, x.areTwins(0, 1));
        Checks.due(1, x.house(3));
    }

    private static void numbersThatLookRefused() {
        Checks.sentence("6 only: returns what is drawn, which may be -9 or -1");
        Splitseed x = new Splitseed();
        Checks.due(Checks.REFUSED, x.only(0, -9));
        Checks.due(Checks.NONE, x.only(0, -1));
        Checks.due("r-9:-8 r-1:0", x.row(0));
        Checks.sentence("13 ofSower: a SEED of -9 and -1");
        x.begin(1, -9, -1);
        Checks.due(-9, x.ofSower(1, 2));
        Checks.due(-1, x.ofSower(1, 3));
        Checks.due(0, x.house(3));
    }

    private static void refusedOnesStayLike() {
        Checks.sentence("What always holds: what is refused changes nothing of what is drawn");
        Splitseed x = Checks.at(Checks.BUSY);
        x.again(1, 5);
        x.below(1, 0);
        x.between(1, 3, 3);
        x.draw(1, -1, 20);
        x.within(1, 3, 3, 40);
        x.together(1, 0, 40);
        Checks.due(true, x.areLike(1, 5));
        Checks.due(40, x.together(1, 5, 40));
        Checks.due(1, x.both(1, 5));
        Checks.due(true, x.longer(1));
        Checks.due(6, x.house(3));
    }
}
