/** The same SOWER twice, where a method names two. */
public final class TwiceTest {
    private static final int FULL = Checks.FULL;

    public static void main(String[] args) {
        split();
        again();
        againGoesOn();
        areLikeAndTwins();
        common();
        together();
        both();
        bothGoesOn();
        Checks.end();
    }

    private static final Checks.State[] STATES = {Checks.NEW, Checks.BUSY, Checks.FULL_ONES,
        Checks.DEEP};

    private static void split() {
        Checks.sentence("10 split: if both are the same");
        for (Checks.State state : STATES) {
            for (int sower = 0; sower <= 5; sower++) {
                int same = sower;
                Checks.threw(Checks.ARGUMENT, state, x -> x.split(same, same));
            }
        }
    }

    private static void again() {
        Checks.sentence("11 again: may be the same");
        for (Checks.State state : STATES) {
            for (int sower = 0; sower <= 5; sower++) {
                Splitseed x = Checks.at(state);
                long digest = x.digest();
                String row = x.row(sower);
                String birth = x.birth(sower);
                int acts = x.ofSower(sower, 0);
                Checks.due(acts, x.again(sower, sower));
                Checks.due(row, x.row(sower));
                Checks.due(birth, x.birth(sower));
                Checks.due(digest, x.digest());
            }
        }
    }

    private static void againGoesOn() {
        Checks.sentence("11 again: the same one draws on as another that did the same");
        Splitseed x = Checks.at(Checks.BUSY);
        Checks.due(2, x.again(2, 5));
        Checks.due(2, x.again(2, 2));
        Checks.due(1, x.both(2, 5));
        Checks.due(true, x.longer(2));
        Checks.due(1, x.split(3, 0));
        Checks.due(3, x.again(3, 3));
        Checks.due("z l s", x.row(3));
        Checks.due(true, x.whole(3));
        Checks.due(true, x.whole(0));
    }

    private static void areLikeAndTwins() {
        for (Checks.State state : STATES) {
            for (int sower = 0; sower <= 5; sower++) {
                int same = sower;
                Checks.sentence("20 areLike: of the same one");
                Checks.due(true, state, x -> x.areLike(same, same));
                Checks.sentence("21 areTwins: of the same one");
                Checks.due(true, state, x -> x.areTwins(same, same));
            }
        }
    }

    private static void common() {
        Checks.sentence("22 common: of the same one");
        for (Checks.State state : STATES) {
            for (int sower = 0; sower <= 5; sower++) {
                Splitseed x = Checks.at(state);
                Checks.due(x.ofSower(sower, 0), x.common(sower, sower));
            }
        }
        Checks.due(FULL, Checks.FULL_ONES, x -> x.common(0, 0));
        Checks.due(0, Checks.FULL_ONES, x -> x.common(4, 4));
    }

    private static void together() {
        Checks.sentence("23 together: of the same one");
        for (Checks.State state : STATES) {
            for (int sower = 0; sower <= 5; sower++) {
                Splitseed x = Checks.at(state);
                long digest = x.digest();
                Checks.due(40, x.together(sower, sower, 40));
                Checks.due(1, x.together(sower, sower, 1));
                Checks.due(digest, x.digest());
            }
        }
    }

    private static void both() {
        Checks.sentence("24 both: once, if both are the same one");
        for (int sower = 0; sower <= 5; sower++) {
            Splitseed x = Checks.at(Checks.BUSY);
            int acts = x.ofSower(sower, 0);
            String row = x.row(sower);
            int all = x.house(0);
            Checks.due(1, x.both(sower, sower));
            Checks.due(acts + 1, x.ofSower(sower, 0));
            Checks.due(row.isEmpty() ? "i" : row + " i", x.row(sower));
            Checks.due(all + 1, x.house(0));
            Checks.due(1, x.house(3));
        }
        Checks.sentence("24 both: the same one, up to 60");
        Splitseed x = new Splitseed();
        for (int acts = 1; acts <= FULL; acts++) {
            Checks.due(1, x.both(3, 3));
            Checks.due(acts, x.ofSower(3, 0));
        }
        Checks.due(Checks.STATE, Checks.answer(x, y -> y.both(3, 3)));
        Checks.due(FULL, x.count(3, 0));
    }

    private static void bothGoesOn() {
        Checks.sentence("24 both: the same one draws on as another that did the same");
        Splitseed x = new Splitseed();
        Checks.due(1, x.both(0, 0));
        Checks.due(true, x.whole(1));
        Checks.due(true, x.areLike(0, 1));
        Checks.due(1, x.both(0, 1));
        Checks.due(Checks.NONE, x.both(2, 1));
        Checks.due(true, x.longer(0));
        Checks.due(true, x.longer(1));
        Checks.due(true, x.longer(2));
    }
}
