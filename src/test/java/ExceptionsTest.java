import java.util.List;

/**
 * If several exceptions apply, the one that is named first is thrown; and it changes nothing, which
 * Checks.threw holds to.
 */
public final class ExceptionsTest {
    private static final int MIN = Checks.MIN;
    private static final int MAX = Checks.MAX;

    public static void main(String[] args) {
        only();
        draw();
        split();
        back();
        ofSowerAndCount();
        within();
        together();
        both();
        act();
        manyOneBehindTheOther();
        Checks.end();
    }

    private static void index(Checks.State state, Checks.Call call) {
        Checks.threw(Checks.INDEX, state, call);
    }

    private static void argument(Checks.State state, Checks.Call call) {
        Checks.threw(Checks.ARGUMENT, state, call);
    }

    private static void state(Checks.State state, Checks.Call call) {
        Checks.threw(Checks.STATE, state, call);
    }

    private static void only() {
        for (int no : Checks.NO_SOWERS) {
            Checks.sentence("6 only: no such SOWER ahead of the greatest number");
            index(Checks.BUSY, x -> x.only(no, MAX));
        }
        Checks.sentence("6 only: the greatest number ahead of a ROW of 60");
        argument(Checks.FULL_ONES, x -> x.only(0, MAX));
        Checks.sentence("6 only: a ROW of 60 alone");
        state(Checks.FULL_ONES, x -> x.only(0, MAX - 1));
        state(Checks.FULL_ONES, x -> x.only(0, MIN));
    }

    private static void draw() {
        for (int no : Checks.NO_SOWERS) {
            Checks.sentence("9 draw: no such SOWER ahead of times");
            index(Checks.BUSY, x -> x.draw(no, 3, 0));
            index(Checks.BUSY, x -> x.draw(no, 3, 21));
            Checks.sentence("9 draw: no such SOWER ahead of times, and of n below 1");
            index(Checks.BUSY, x -> x.draw(no, 0, 0));
        }
        Checks.sentence("9 draw: times ahead of a ROW of more than 60");
        for (int times : new int[] {0, 21, -1, MIN, MAX}) {
            argument(Checks.FULL_ONES, x -> x.draw(0, 3, times));
            argument(Checks.FULL_ONES, x -> x.draw(1, 3, times));
        }
        Checks.sentence("9 draw: times ahead of a ROW of more than 60, and of n below 1");
        argument(Checks.FULL_ONES, x -> x.draw(0, 0, 21));
    }

    private static void split() {
        for (int no : Checks.NO_SOWERS) {
            Checks.sentence("10 split: no such SOWER ahead of both are the same");
            index(Checks.BUSY, x -> x.split(no, no));
            Checks.sentence("10 split: no such SOWER to become it ahead of a ROW of 60");
            index(Checks.FULL_ONES, x -> x.split(0, no));
            Checks.sentence("10 split: no such SOWER to become it ahead of a GENERATION of 4");
            index(Checks.DEEP, x -> x.split(4, no));
        }
        Checks.sentence("10 split: both are the same");
        for (int sower = 0; sower <= 5; sower++) {
            int same = sower;
            argument(Checks.BUSY, x -> x.split(same, same));
        }
        Checks.sentence("10 split: both are the same ahead of a ROW of 60");
        argument(Checks.FULL_ONES, x -> x.split(0, 0));
        Checks.sentence("10 split: both are the same ahead of a GENERATION of 4");
        argument(Checks.DEEP, x -> x.split(4, 4));
        Checks.sentence("10 split: a ROW of 60 and a GENERATION of 4");
        state(x -> {
            Checks.DEEP.bring(x);
            x.back(4, 0);
            Checks.fill(x, 4);
        }, x -> x.split(4, 5));
    }

    private static void back() {
        Checks.sentence("12 back: no such SOWER ahead of many");
        for (int no : Checks.NO_SOWERS) {
            index(Checks.BUSY, x -> x.back(no, -1));
            index(Checks.BUSY, x -> x.back(no, 61));
            index(Checks.BUSY, x -> x.back(no, MAX));
        }
    }

    private static void ofSowerAndCount() {
        for (int no : Checks.NO_SOWERS) {
            Checks.sentence("13 ofSower: no such SOWER ahead of what");
            index(Checks.BUSY, x -> x.ofSower(no, -1));
            index(Checks.BUSY, x -> x.ofSower(no, 5));
            Checks.sentence("17 count: no such SOWER ahead of kind");
            index(Checks.BUSY, x -> x.count(no, -1));
            index(Checks.BUSY, x -> x.count(no, 6));
        }
    }

    private static void within() {
        for (int no : Checks.NO_SOWERS) {
            Checks.sentence("18 within: no such SOWER ahead of times");
            index(Checks.BUSY, x -> x.within(no, 1, 2, 0));
            index(Checks.BUSY, x -> x.within(no, 1, 2, 41));
            Checks.sentence("18 within: no such SOWER ahead of times, and of from not less than to");
            index(Checks.BUSY, x -> x.within(no, 2, 1, 0));
        }
    }

    private static void together() {
        for (int no : Checks.NO_SOWERS) {
            Checks.sentence("23 together: no such SOWER ahead of times");
            index(Checks.BUSY, x -> x.together(no, 0, 0));
            index(Checks.BUSY, x -> x.together(0, no, 0));
            index(Checks.BUSY, x -> x.together(no, 0, 41));
            index(Checks.BUSY, x -> x.together(0, no, 41));
            index(Checks.BUSY, x -> x.together(no, no, 41));
        }
    }

    private static void both() {
        for (int no : Checks.NO_SOWERS) {
            Checks.sentence("24 both: no such SOWER ahead of a ROW of 60");
            index(Checks.FULL_ONES, x -> x.both(0, no));
            index(Checks.FULL_ONES, x -> x.both(no, 0));
        }
        Checks.sentence("24 both: one's ROW has 60, and the other one does nothing");
        state(Checks.FULL_ONES, x -> x.both(5, 0));
        state(Checks.FULL_ONES, x -> x.both(0, 5));
    }

    private static void act() {
        Checks.sentence("16 act: no such SOWER, and no such ACT");
        for (int no : Checks.NO_SOWERS) {
            for (int k : new int[] {-1, 60, MIN, MAX}) {
                index(Checks.BUSY, x -> x.act(no, k));
            }
        }
    }

    private static void manyOneBehindTheOther() {
        Checks.sentence("Description: a method that throws changes nothing (many, one by one)");
        Splitseed x = Checks.at(Checks.FULL_ONES);
        List<String> before = Checks.asked(x);
        Checks.Call[] calls = {y -> y.begin(6, 9, 9), y -> y.whole(0), y -> y.below(0, 2),
            y -> y.between(0, 1, 3), y -> y.only(0, 1), y -> y.longer(0), y -> y.coin(0),
            y -> y.draw(1, 2, 2), y -> y.split(0, 1), y -> y.again(0, 6), y -> y.back(1, 60),
            y -> y.both(1, 0), y -> y.house(5), y -> y.pairs(1, 1, 0),
            y -> y.children(1, 1, 21, 1), y -> y.together(0, 2, 41), y -> y.within(0, 1, 2, 41)};
        for (Checks.Call call : calls) {
            Checks.due(true, Checks.answer(x, call) instanceof Class);
        }
        Checks.due(before, Checks.asked(x));
        Checks.due(0, x.house(3));
        Checks.due(true, x.longer(1));
        Checks.due(2, x.split(4, 5));
    }
}
