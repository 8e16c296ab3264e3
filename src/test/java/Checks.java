import java.util.ArrayList;
import java.util.List;

/**
 * What the tests of the edges share. Each check has an object of its own, since what an object
 * answers behind its 512th call is free.
 */
final class Checks {
    static final int MIN = Integer.MIN_VALUE;
    static final int MAX = Integer.MAX_VALUE;
    static final int NONE = -1;
    static final int REFUSED = -9;
    static final int FULL = 60;
    static final Class<?> INDEX = IndexOutOfBoundsException.class;
    static final Class<?> ARGUMENT = IllegalArgumentException.class;
    static final Class<?> STATE = IllegalStateException.class;
    static final int[] NO_SOWERS = {-1, 6, MIN, MAX};

    /** A call of the face. */
    interface Call {
        Object on(Splitseed x);
    }

    /** The calls that bring a new object to where a check begins. */
    interface State {
        void bring(Splitseed x);
    }

    private static String sentence = "";
    private static int wrong = 0;

    private Checks() {
    }

    // ---- states

    static final State NEW = x -> {
    };

    /** Seeds of their own, rows, a split, two that are like, a refusal and a knock. */
    static final State BUSY = x -> {
        x.begin(0, 3, -4);
        x.draw(0, 6, 3);
        x.split(0, 1);
        x.whole(1);
        x.between(1, -5, 5);
        x.again(1, 2);
        x.coin(3);
        x.longer(3);
        x.split(1, 4);
        x.below(5, 0);
        x.knock();
    };

    /** The row of sower 0 is full, that of 1 has one act less, 2 is like 0, 3 is split off 1's twin. */
    static final State FULL_ONES = x -> {
        fill(x, 0);
        acts(x, 1, FULL - 1);
        x.again(0, 2);
        x.again(1, 3);
        x.split(3, 4);
    };

    /** Sower 4 is of the greatest generation, 5 is new. */
    static final State DEEP = x -> {
        x.begin(0, MIN, MAX);
        for (int i = 0; i < 4; i++) {
            x.whole(i);
            x.split(i, i + 1);
        }
        x.coin(4);
    };

    static void acts(Splitseed x, int sower, int many) {
        int left = many;
        while (left > 0) {
            int times = Math.min(left, 20);
            x.draw(sower, 1000 + times, times);
            left -= times;
        }
    }

    static void fill(Splitseed x, int sower) {
        acts(x, sower, FULL);
    }

    static Splitseed at(State state) {
        Splitseed x = new Splitseed();
        state.bring(x);
        return x;
    }

    // ---- checks

    /** The sentence of the document that the checks behind this hold to. */
    static void sentence(String words) {
        sentence = words;
    }

    static void due(Object want, Object got) {
        if (!want.equals(got)) {
            wrong(" answered " + got + ", due is " + want);
        }
    }

    /** The call, as the first one in a state. */
    static void due(Object want, State state, Call call) {
        due(want, answer(at(state), call));
    }

    static void threw(Class<?> want, Splitseed x, Call call) {
        due(want, answer(x, call));
    }

    /**
     * The call throws, and what every other call answers is the same ahead of it and behind it; what
     * is done then is done as in another object that was never asked so.
     */
    static void threw(Class<?> want, State state, Call call) {
        Splitseed x = at(state);
        List<String> before = asked(x);
        int refusals = x.house(3);
        long digest = x.digest();
        due(want, answer(x, call));
        due(digest, x.digest());
        due(refusals, x.house(3));
        same(before, asked(x));
        same(done(at(state)), done(x));
    }

    /** The call is refused, and nothing changes but house() 3. */
    static void refused(State state, Call call) {
        Splitseed x = at(state);
        List<String> before = asked(x);
        int refusals = x.house(3);
        due(REFUSED, answer(x, call));
        due(refusals + 1, x.house(3));
        same(before, asked(x));
        same(done(at(state)), done(x));
    }

    static Object answer(Splitseed x, Call call) {
        try {
            return call.on(x);
        } catch (RuntimeException e) {
            return e.getClass();
        }
    }

    static void end() {
        System.out.println(wrong == 0 ? "all edges hold" : wrong + " answers are wrong");
        if (wrong != 0) {
            System.exit(1);
        }
    }

    // ---- what is told of an object

    /** What the calls answer that change nothing; without house() 3, and so without digest(). */
    static List<String> asked(Splitseed x) {
        List<String> all = new ArrayList<>();
        for (int i = 0; i < 6; i++) {
            askedOfOne(all, x, i);
            for (int j = i + 1; j < 6; j++) {
                askedOfTwo(all, x, i, j);
            }
        }
        for (int what : new int[] {0, 1, 2, 4}) {
            tell(all, "house " + what, x.house(what));
        }
        tell(all, "pairs", x.pairs(4, -4, 3));
        tell(all, "children", x.children(4, -4, 3, 3));
        tell(all, "isSound", x.isSound());
        return all;
    }

    private static void askedOfOne(List<String> all, Splitseed x, int sower) {
        for (int what = 0; what <= 4; what++) {
            tell(all, "ofSower " + sower + " " + what, x.ofSower(sower, what));
        }
        tell(all, "row " + sower, x.row(sower));
        tell(all, "birth " + sower, x.birth(sower));
        tell(all, "act " + sower + " 0", answer(x, y -> y.act(sower, 0)));
        for (int kind = 0; kind <= 5; kind++) {
            tell(all, "count " + sower + " " + kind, x.count(sower, kind));
        }
        tell(all, "within " + sower, x.within(sower, -3, 3, 2));
        tell(all, "tried " + sower, x.tried(sower));
        tell(all, "together " + sower, x.together(sower, sower, 2));
    }

    private static void askedOfTwo(List<String> all, Splitseed x, int sower, int other) {
        String both = " " + sower + " " + other;
        tell(all, "areLike" + both, x.areLike(sower, other));
        tell(all, "areTwins" + both, x.areTwins(sower, other));
        tell(all, "common" + both, x.common(sower, other));
    }

    /** What the calls answer that do something, one behind the other. */
    private static List<String> done(Splitseed x) {
        List<String> all = new ArrayList<>();
        tell(all, "both", answer(x, y -> y.both(1, 2)));
        for (int i = 0; i < 6; i++) {
            int sower = i;
            tell(all, "whole " + i, answer(x, y -> y.whole(sower)));
            tell(all, "below " + i, answer(x, y -> y.below(sower, MAX)));
            tell(all, "between " + i, answer(x, y -> y.between(sower, MIN, MAX)));
            tell(all, "only " + i, answer(x, y -> y.only(sower, 17)));
            tell(all, "longer " + i, answer(x, y -> y.longer(sower)));
            tell(all, "draw " + i, answer(x, y -> y.draw(sower, MAX, 2)));
            tell(all, "coin " + i, answer(x, y -> y.coin(sower)));
        }
        tell(all, "split", answer(x, y -> y.split(3, 5)));
        tell(all, "whole of the split off one", answer(x, y -> y.whole(5)));
        tell(all, "again", x.again(2, 3));
        tell(all, "back", answer(x, y -> y.back(4, 0)));
        tell(all, "begin", x.begin(0, 1, 2));
        tell(all, "knock", x.knock());
        for (int i = 0; i < 6; i++) {
            tell(all, "birth " + i, x.birth(i));
            tell(all, "row " + i, x.row(i));
            tell(all, "tried " + i, x.tried(i));
        }
        return all;
    }

    private static void tell(List<String> all, String call, Object answer) {
        all.add(call + ": " + answer);
    }

    private static void same(List<String> want, List<String> got) {
        for (int i = 0; i < want.size(); i++) {
            if (!want.get(i).equals(got.get(i))) {
                wrong(": what others answer changed, \"" + got.get(i) + "\", due is \"" + want.get(i)
                        + "\"");
                return;
            }
        }
    }

    private static void wrong(String what) {
        wrong++;
        System.out.println(sentence + what);
        for (StackTraceElement call : new Throwable().getStackTrace()) {
            if (!call.getClassName().equals("Checks")) {
                System.out.println("    at " + call);
                return;
            }
        }
    }
}
