import java.lang.reflect.Constructor;
import java.lang.reflect.Field;
import java.lang.reflect.Method;
import java.util.HashSet;
import java.util.Set;

/**
 * What is drawn is never told, so this test looks inside: that numbers lie within their bounds, that
 * each number of a small range comes, and that sources of other seeds and split off ones go their
 * own ways, that a sower led astray is noticed.
 */
public final class DrawsTest {
    private static final int WHOLE = 0;
    private static final int BELOW = 1;
    private static final int BETWEEN = 2;
    private static final int LONG = 3;
    private static final int COIN = 4;
    private static final int DRAWS = 2000;

    private static int wrong = 0;

    private static final class Source {
        private final Object inner;
        private final Method next;
        private final Method startWith;
        private final Method splitInto;

        Source(int first, int second) throws ReflectiveOperationException {
            Class<?> type = Class.forName("Splitseed$Source");
            Constructor<?> maker = type.getDeclaredConstructor();
            maker.setAccessible(true);
            inner = maker.newInstance();
            next = open(type.getDeclaredMethod("next", int.class, int.class, int.class));
            startWith = open(type.getDeclaredMethod("startWith", int.class, int.class));
            splitInto = open(type.getDeclaredMethod("splitInto", type));
            startWith.invoke(inner, first, second);
        }

        private static Method open(Method method) {
            method.setAccessible(true);
            return method;
        }

        static Field open(Class<?> type, String name) throws ReflectiveOperationException {
            Field field = type.getDeclaredField(name);
            field.setAccessible(true);
            return field;
        }

        long next(int kind, int low, int high) throws ReflectiveOperationException {
            return (Long) next.invoke(inner, kind, low, high);
        }

        void splitInto(Source child) throws ReflectiveOperationException {
            splitInto.invoke(inner, child.inner);
        }
    }

    private static void bounds(int kind, int low, int high) throws ReflectiveOperationException {
        Source source = new Source(low, high);
        Set<Long> seen = new HashSet<>();
        for (int i = 0; i < DRAWS; i++) {
            long drawn = source.next(kind, low, high);
            check(drawn >= low && drawn < high, drawn + " is outside " + low + ":" + high);
            seen.add(drawn);
        }
        long size = (long) high - low;
        check(size > 60 || seen.size() == size, "not all of " + low + ":" + high + " came");
        check(size < 1_000_000 || seen.size() > DRAWS / 2, "few of " + low + ":" + high + " came");
    }

    private static void kinds() throws ReflectiveOperationException {
        Source source = new Source(0, 0);
        Set<Long> wholes = new HashSet<>();
        Set<Long> longs = new HashSet<>();
        int yes = 0;
        int negative = 0;
        int wide = 0;
        for (int i = 0; i < DRAWS; i++) {
            long whole = source.next(WHOLE, 0, 0);
            check(whole == (int) whole, whole + " has more than 32 bits");
            negative += whole < 0 ? 1 : 0;
            wholes.add(whole);
            long drawn = source.next(LONG, 0, 0);
            wide += drawn == (int) drawn ? 0 : 1;
            longs.add(drawn);
            long coin = source.next(COIN, 0, 0);
            check(coin == 0 || coin == 1, "a coin of " + coin);
            yes += coin == 1 ? 1 : 0;
        }
        check(wholes.size() > DRAWS - 5, "whole numbers come again");
        check(longs.size() == DRAWS, "long numbers come again");
        check(wide > DRAWS - 5, "long numbers of 32 bits");
        check(Math.abs(negative - DRAWS / 2) < DRAWS / 10, "negative ones: " + negative);
        check(Math.abs(yes - DRAWS / 2) < DRAWS / 10, "coins with yes: " + yes);
    }

    private static void ownWays() throws ReflectiveOperationException {
        Source parent = new Source(1, 2);
        Source twin = new Source(1, 2);
        Source other = new Source(2, 1);
        Source child = new Source(0, 0);
        Source twinsChild = new Source(0, 0);
        parent.splitInto(child);
        twin.splitInto(twinsChild);
        int alike = 0;
        for (int i = 0; i < DRAWS; i++) {
            long fromChild = child.next(LONG, 0, 0);
            check(fromChild == twinsChild.next(LONG, 0, 0), "children of twins differ");
            long fromParent = parent.next(LONG, 0, 0);
            check(fromParent == twin.next(LONG, 0, 0), "twins differ");
            alike += fromChild == fromParent ? 1 : 0;
            alike += other.next(LONG, 0, 0) == fromParent ? 1 : 0;
        }
        check(alike == 0, "others draw the same: " + alike);
        twin.splitInto(twin);
        parent.splitInto(child);
        check(twin.next(LONG, 0, 0) == child.next(LONG, 0, 0), "split into itself is no child");
    }

    private static void seedsOfTheirOwn() throws ReflectiveOperationException {
        int[] numbers = {Integer.MIN_VALUE, -1, 0, 1, 2, Integer.MAX_VALUE};
        Set<Long> firstDraws = new HashSet<>();
        for (int first : numbers) {
            for (int second : numbers) {
                long drawn = new Source(first, second).next(LONG, 0, 0);
                check(firstDraws.add(drawn), "drawn of another seed: " + first + "," + second);
            }
        }
    }

    // By the face nothing ever goes astray, so the test leads a sower astray to see it noticed.
    private static void astray() throws ReflectiveOperationException {
        check(!astrayObject().whole(0), "whole is right astray");
        check(!astrayObject().longer(0), "longer is right astray");
        check(astrayObject().below(0, Integer.MAX_VALUE) == 0, "below is right astray");
        check(astrayObject().between(0, -1, Integer.MAX_VALUE) == 0, "between is right astray");
        check(astrayObject().draw(0, Integer.MAX_VALUE, 20) == 0, "draw is right astray");
        check(astrayObject().both(0, 1) == 0, "both is right astray");
        int coins = 0;
        Splitseed x = astrayObject();
        for (int i = 0; i < 60; i++) {
            coins += x.coin(0) ? 1 : 0;
        }
        check(coins > 0 && coins < 60, "coins right astray: " + coins);
        x.back(0, 1);
        check(x.whole(0), "back leaves it astray");
        Splitseed y = astrayObject();
        y.again(0, 0);
        check(y.whole(0), "again leaves it astray");
        Splitseed z = astrayObject();
        z.begin(0, 0, 0);
        check(z.whole(0), "begin leaves it astray");
    }

    private static Splitseed astrayObject() throws ReflectiveOperationException {
        Splitseed x = new Splitseed();
        Object sower = sowerOf(x, 0);
        Object source = Source.open(sower.getClass(), "source").get(sower);
        Source.open(source.getClass(), "state").setLong(source, 77);
        return x;
    }

    private static Object sowerOf(Splitseed x, int sower) throws ReflectiveOperationException {
        return java.lang.reflect.Array.get(Source.open(Splitseed.class, "sowers").get(x), sower);
    }

    private static void unsound() throws ReflectiveOperationException {
        for (int sower = 0; sower < 6; sower++) {
            for (String field : new String[] {"size", "generation"}) {
                Splitseed x = new Splitseed();
                Object s = sowerOf(x, sower);
                Source.open(s.getClass(), field).setInt(s, field.equals("size") ? 61 : 5);
                check(!x.isSound(), "sound with a wrong " + field);
            }
        }
    }

    private static void check(boolean holds, String what) {
        if (!holds) {
            wrong++;
            System.out.println(what);
        }
    }

    public static void main(String[] args) throws ReflectiveOperationException {
        for (int n : new int[] {1, 2, 3, 7, 10, 60, 1 << 30, Integer.MAX_VALUE}) {
            bounds(BELOW, 0, n);
            bounds(BETWEEN, -n, -n + 1);
            bounds(BETWEEN, Integer.MIN_VALUE, Integer.MIN_VALUE + n);
        }
        bounds(BETWEEN, Integer.MIN_VALUE, Integer.MAX_VALUE);
        bounds(BETWEEN, Integer.MAX_VALUE - 1, Integer.MAX_VALUE);
        bounds(BETWEEN, -30, 30);
        kinds();
        ownWays();
        seedsOfTheirOwn();
        astray();
        unsound();
        System.out.println(wrong == 0 ? "all draws are as due" : wrong + " draws are not as due");
        if (wrong != 0) {
            System.exit(1);
        }
    }
}
