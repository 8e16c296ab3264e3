/** Empty ones and full ones, sentence by sentence. */
public final class EmptyAndFullTest {
    private static final int FULL = Checks.FULL;

    public static void main(String[] args) {
        newOnes();
        begunOnes();
        splitOfEmptyOne();
        againOfEmptyOne();
        backToNone();
        nothingInCommon();
        noActs();
        fullForAnAct();
        fullForDraw();
        fullForSplit();
        fullForBoth();
        fullOnesAreAsked();
        fullOnesBecomeOthers();
        longestBirth();
        allRowsFull();
        Checks.end();
    }

    // ---- empty

    private static void newOnes() {
        Checks.sentence("1. Sowers: at first each is a NEW one of the SEED 0, 0");
        for (int sower = 0; sower <= 5; sower++) {
            Splitseed x = new Splitseed();
            dueEmpty(x, sower, "0,0", 0);
            Checks.due(0, x.ofSower(sower, 2));
            Checks.due(0, x.ofSower(sower, 3));
            for (int other = 0; other <= 5; other++) {
                Checks.due(true, x.areLike(sower, other));
                Checks.due(0, x.common(sower, other));
                Checks.due(2, x.together(sower, other, 2));
            }
            Checks.due(true, x.whole(sower));
        }
        Splitseed x = new Splitseed();
        int[] house = {0, 15, 0, 0, 0};
        for (int what = 0; what <= 4; what++) {
            Checks.due(house[what], x.house(what));
        }
        Checks.due(true, x.isSound());
    }

    /** A row without acts: its text is empty, and nothing of it is counted. */
    private static void dueEmpty(Splitseed x, int sower, String birth, int birthActs) {
        Checks.due("", x.row(sower));
        Checks.due(birth, x.birth(sower));
        Checks.due(0, x.ofSower(sower, 0));
        Checks.due(birthActs, x.ofSower(sower, 4));
        Checks.due(5, x.tried(sower));
        for (int kind = 0; kind <= 5; kind++) {
            Checks.due(0, x.count(sower, kind));
        }
        Checks.due(Checks.INDEX, Checks.answer(x, y -> y.act(sower, 0)));
        Checks.due(0, x.back(sower, 0));
    }

    private static void begunOnes() {
        Checks.sentence("2 begin: returns how many ACTS its ROW had");
        for (int size : new int[] {0, 1, 59, 60}) {
            Splitseed x = new Splitseed();
            Checks.acts(x, 2, size);
            Checks.due(size, x.begin(2, 4, 5));
            dueEmpty(x, 2, "4,5", 0);
            Checks.due(0, x.begin(2, 4, 5));
        }
        Checks.sentence("2 begin: how many ACTS its ROW had, and not its BIRTH");
        Splitseed x = new Splitseed();
        Checks.acts(x, 0, 7);
        x.split(0, 1);
        x.whole(1);
        Checks.due(1, x.begin(1, 4, 5));
        dueEmpty(x, 1, "4,5", 0);
        Checks.due(0, x.ofSower(1, 1));
    }

    private static void splitOfEmptyOne() {
        Checks.sentence("1. Sowers: BIRTH of one that was split off of one without ACTS");
        Splitseed x = new Splitseed();
        Checks.due(1, x.split(0, 1));
        dueEmpty(x, 1, "0,0 ()", 0);
        Checks.due("s", x.row(0));
        Checks.due(2, x.split(1, 2));
        dueEmpty(x, 2, "0,0 () ()", 0);
        Checks.due(3, x.split(2, 3));
        Checks.due(4, x.split(3, 4));
        dueEmpty(x, 4, "0,0 () () () ()", 0);
        Checks.due(0, x.common(4, 4));
        Checks.due(1, x.both(4, 4));
        Checks.due(true, x.isSound());
        Checks.sentence("1. Sowers: the SPLIT ahead stands in the ROW ahead of the next one");
        Checks.due(1, x.split(0, 5));
        dueEmpty(x, 5, "0,0 (s)", 1);
        Checks.due(false, x.areTwins(1, 5));
    }

    private static void againOfEmptyOne() {
        Checks.sentence("11 again: of a SOWER without ACTS");
        Splitseed x = Checks.at(Checks.BUSY);
        Checks.due(0, x.again(5, 1));
        dueEmpty(x, 1, "0,0", 0);
        Checks.due(0, x.ofSower(1, 1));
        Checks.due(1, x.both(1, 5));
        Checks.due(0, x.again(4, 0));
        dueEmpty(x, 0, "3,-4 (b6 b6 b6) (i r-5:5)", 5);
        Checks.due(2, x.ofSower(0, 1));
        Checks.due(1, x.both(0, 4));
        Checks.sentence("11 again: of itself without ACTS");
        Splitseed y = new Splitseed();
        Checks.due(0, y.again(3, 3));
        dueEmpty(y, 3, "0,0", 0);
        Checks.due(15, y.house(1));
    }

    private static void backToNone() {
        Checks.sentence("12 back: to none");
        for (int size : new int[] {0, 1, 59, 60}) {
            Splitseed x = new Splitseed();
            Checks.acts(x, 2, size);
            Checks.due(size, x.back(2, 0));
            dueEmpty(x, 2, "0,0", 0);
            Checks.due(1, x.both(2, 3));
            Checks.due(true, x.longer(2));
        }
        Checks.sentence("12 back: to none, and its BIRTH stays");
        Splitseed x = Checks.at(Checks.BUSY);
        Checks.due(2, x.back(2, 0));
        dueEmpty(x, 2, "3,-4 (b6 b6 b6)", 3);
        Checks.due(3, x.back(1, 0));
        Checks.due(1, x.both(1, 2));
        Checks.due(0, x.back(4, 0));
        Checks.due("3,-4 (b6 b6 b6) (i r-5:5)", x.birth(4));
        Checks.due(true, x.whole(4));
    }

    private static void nothingInCommon() {
        Checks.sentence("22 common: NONE if they have not the same BIRTH");
        Splitseed x = Checks.at(Checks.BUSY);
        Checks.due(Checks.NONE, x.common(0, 1));
        Checks.due(Checks.NONE, x.common(1, 0));
        Checks.due(Checks.NONE, x.common(4, 5));
        Checks.due(Checks.NONE, x.common(5, 0));
        Checks.sentence("22 common: 0 if both have no ACTS, or but one has, or the first ones differ");
        x.begin(0, 0, 0);
        Checks.due(0, x.common(0, 5));
        Checks.due(0, x.common(3, 5));
        Checks.due(0, x.common(5, 3));
        x.longer(0);
        x.longer(0);
        Checks.due(0, x.common(0, 3));
        Checks.sentence("22 common: ACTS from the first one on, and not behind one that differs");
        x.begin(0, 0, 0);
        x.coin(0);
        x.whole(0);
        x.longer(0);
        x.longer(3);
        Checks.due("z l l", x.row(3));
        Checks.due(1, x.common(0, 3));
        Checks.due(1, x.common(3, 0));
    }

    private static void noActs() {
        Checks.sentence("28 house: without ACTS, without any LIKE");
        Splitseed x = new Splitseed();
        for (int sower = 1; sower <= 5; sower++) {
            x.begin(sower, sower, 0);
        }
        Checks.due(0, x.house(0));
        Checks.due(0, x.house(1));
        x.begin(5, 0, 0);
        Checks.due(1, x.house(1));
    }

    // ---- full

    private interface Act {
        Object by(Splitseed x, int sower);
    }

    private static final Object[][] ACTS = {
        {"3 whole", "i", true, (Act) (x, sower) -> x.whole(sower)},
        {"4 below", "b1", 0, (Act) (x, sower) -> x.below(sower, 1)},
        {"4 below", "b9", 1, (Act) (x, sower) -> x.below(sower, 9)},
        {"5 between", "r-9:9", 1, (Act) (x, sower) -> x.between(sower, -9, 9)},
        {"6 only", "r4:5", 4, (Act) (x, sower) -> x.only(sower, 4)},
        {"7 longer", "l", true, (Act) (x, sower) -> x.longer(sower)},
        {"8 coin", "z", true, (Act) (x, sower) -> x.coin(sower)},
        {"9 draw", "b9", 1, (Act) (x, sower) -> x.draw(sower, 9, 1)},
        {"10 split", "s", 1, (Act) (x, sower) -> x.split(sower, 5)},
        {"24 both", "i", 1, (Act) (x, sower) -> x.both(sower, sower)},
    };

    private static void fullForAnAct() {
        for (Object[] row : ACTS) {
            Act act = (Act) row[3];
            Checks.sentence(row[0] + ": its ROW has 58");
            Checks.due(row[2], x -> Checks.acts(x, 1, FULL - 2), x -> act.by(x, 1));
            Checks.sentence(row[0] + ": its ROW has 59");
            Splitseed x = Checks.at(Checks.FULL_ONES);
            Checks.due(row[2], act.by(x, 1));
            Checks.due(FULL, x.ofSower(1, 0));
            Checks.due(row[1], x.act(1, FULL - 1));
            Checks.due(5, x.tried(1));
            Checks.sentence(row[0] + ": if its ROW has 60");
            Checks.threw(Checks.STATE, Checks.FULL_ONES, y -> act.by(y, 0));
            Checks.threw(Checks.STATE, x, y -> act.by(y, 1));
            Checks.sentence(row[0] + ": its ROW has 60 no more");
            Checks.due(1, x.back(1, FULL - 1));
            Checks.due(row[2], act.by(x, 1));
        }
    }

    private static void fullForDraw() {
        for (int times = 1; times <= 20; times++) {
            int often = times;
            Checks.sentence("9 draw: its ROW would have 59");
            dueDrawn(FULL - 1 - times, times);
            Checks.sentence("9 draw: its ROW would have 60");
            dueDrawn(FULL - times, times);
            Checks.sentence("9 draw: if its ROW would have more than 60");
            Checks.threw(Checks.STATE, x -> Checks.acts(x, 4, FULL + 1 - often),
                    x -> x.draw(4, 3, often));
            Checks.threw(Checks.STATE, Checks.FULL_ONES, x -> x.draw(0, 3, often));
        }
    }

    private static void dueDrawn(int size, int times) {
        Splitseed x = new Splitseed();
        Checks.acts(x, 4, size);
        Checks.due(times, x.draw(4, 3, times));
        Checks.due(size + times, x.ofSower(4, 0));
        Checks.due("b3", x.act(4, size));
        Checks.due("b3", x.act(4, size + times - 1));
    }

    private static void fullForSplit() {
        Checks.sentence("10 split: if its ROW has 60 (and not that of the one that becomes it)");
        Splitseed x = Checks.at(Checks.FULL_ONES);
        Checks.due(1, x.split(1, 0));
        Checks.due("", x.row(0));
        Checks.due(FULL - 1, x.ofSower(0, 4));
        Checks.due(FULL, x.ofSower(1, 0));
        Checks.due(true, x.whole(0));
        Checks.sentence("10 split: its ROW has 60, and not its BIRTH");
        Checks.due(FULL - 1, x.ofSower(4, 4));
        Checks.due(2, x.split(4, 5));
        Checks.sentence("10 split: if its GENERATION is 4 (and not that of the one that becomes it)");
        Splitseed y = Checks.at(Checks.DEEP);
        Checks.due(1, y.split(5, 4));
        Checks.due("0,0 ()", y.birth(4));
        Checks.due(4, y.split(3, 4));
    }

    private static void fullForBoth() {
        Checks.sentence("24 both: if one's ROW has 60");
        Checks.threw(Checks.STATE, Checks.FULL_ONES, x -> x.both(0, 5));
        Checks.threw(Checks.STATE, Checks.FULL_ONES, x -> x.both(5, 0));
        Checks.threw(Checks.STATE, Checks.FULL_ONES, x -> x.both(0, 1));
        Checks.threw(Checks.STATE, Checks.FULL_ONES, x -> x.both(1, 0));
        Checks.threw(Checks.STATE, Checks.FULL_ONES, x -> x.both(0, 2));
        Checks.threw(Checks.STATE, Checks.FULL_ONES, x -> x.both(0, 0));
        Checks.sentence("24 both: both ROWS have 59");
        Splitseed x = new Splitseed();
        Checks.acts(x, 0, FULL - 1);
        Checks.acts(x, 1, FULL - 1);
        Checks.due(1, x.both(0, 1));
        Checks.due(FULL, x.ofSower(0, 0));
        Checks.due(FULL, x.ofSower(1, 0));
        Checks.due(true, x.areLike(0, 1));
        Checks.sentence("24 both: one's ROW has 59, and they are not LIKE");
        Splitseed y = Checks.at(Checks.FULL_ONES);
        Checks.due(Checks.NONE, y.both(1, 5));
        Checks.due(FULL, y.ofSower(1, 0));
        Checks.due(1, y.ofSower(5, 0));
        Checks.sentence("24 both: once, if both are the same one (its ROW has 59)");
        Splitseed z = Checks.at(Checks.FULL_ONES);
        Checks.due(1, z.both(1, 1));
        Checks.due(FULL, z.ofSower(1, 0));
    }

    private static void fullOnesAreAsked() {
        Checks.sentence("18 within, 19 tried, 23 together: a full ROW can be asked");
        Splitseed x = Checks.at(Checks.FULL_ONES);
        Checks.due(40, x.within(0, -1, 1, 40));
        Checks.due(5, x.tried(0));
        Checks.due(40, x.together(0, 2, 40));
        Checks.due(true, x.areLike(0, 2));
        Checks.due(FULL, x.common(0, 2));
        Checks.due(40, x.common(0, 1));
        Checks.due("b1020", x.act(0, FULL - 1));
        Checks.due(FULL, x.ofSower(0, 0));
        Checks.due(FULL, x.count(0, 1));
        Checks.due(FULL * 6 - 1, x.row(0).length());
        Checks.due(4 * FULL - 1, x.house(0));
        Checks.due(true, x.isSound());
        Checks.sentence("19 tried: one of the greatest GENERATION can be asked");
        Checks.due(5, Checks.DEEP, y -> y.tried(4));
    }

    private static void fullOnesBecomeOthers() {
        Checks.sentence("2 begin, 11 again, 12 back: a full ROW can become another");
        Splitseed x = Checks.at(Checks.FULL_ONES);
        Checks.due(FULL, x.again(0, 5));
        Checks.due(FULL, x.again(0, 0));
        Checks.due(0, x.back(0, FULL));
        Checks.due(Checks.STATE, Checks.answer(x, y -> y.whole(0)));
        Checks.due(0, x.again(4, 0));
        Checks.due(true, x.whole(0));
        Checks.due(FULL, x.begin(2, 0, 0));
        Checks.due(true, x.whole(2));
        Checks.due(1, x.back(5, FULL - 1));
        Checks.due(true, x.longer(5));
        Checks.due(Checks.STATE, Checks.answer(x, y -> y.longer(5)));
    }

    private static void longestBirth() {
        Checks.sentence("13 ofSower: 4 how many ACTS the text of its BIRTH has");
        Splitseed x = new Splitseed();
        for (int sower = 0; sower < 4; sower++) {
            Checks.acts(x, sower, FULL - 1);
            Checks.due(sower + 1, x.split(sower, sower + 1));
            Checks.due((FULL - 1) * (sower + 1), x.ofSower(sower + 1, 4));
            Checks.due(FULL, x.ofSower(sower, 0));
        }
        Checks.fill(x, 4);
        Checks.due(4 * (FULL - 1), x.ofSower(4, 4));
        Checks.due(5 * FULL, x.house(0));
        Checks.due(5, x.tried(4));
        Checks.due(FULL, x.again(4, 5));
        Checks.due(40, x.together(4, 5, 40));
        Checks.due(1, x.back(5, FULL - 1));
        Checks.due(true, x.coin(5));
        Checks.due(3 + 4 * (FULL * 6 - 4), x.birth(5).length());
        Checks.due(true, x.isSound());
    }

    private static void allRowsFull() {
        Checks.sentence("28 house: 0 how many ACTS all ROWS have, if all are full");
        Splitseed x = new Splitseed();
        for (int sower = 0; sower <= 5; sower++) {
            Checks.fill(x, sower);
        }
        Checks.due(6 * FULL, x.house(0));
        Checks.due(15, x.house(1));
        Checks.due(0, x.house(2));
        Checks.sentence("29 isSound: if all ROWS are full");
        Checks.due(true, x.isSound());
        Checks.sentence("3 whole: if its ROW has 60, of all");
        for (int sower = 0; sower <= 5; sower++) {
            int full = sower;
            Checks.due(Checks.STATE, Checks.answer(x, y -> y.whole(full)));
        }
        Checks.due(true, x.isSound());
    }
}
