import java.util.ArrayList;
import java.util.List;
import java.util.function.Supplier;

/** Promise by promise: ordinary inputs, the edges that the document names, and wrong inputs. */
public final class SplitseedTest {
    private static final int MIN = Integer.MIN_VALUE;
    private static final int MAX = Integer.MAX_VALUE;
    private static final int NONE = -1;
    private static final int REFUSED = -9;
    private static final Class<?> INDEX = IndexOutOfBoundsException.class;
    private static final Class<?> ARGUMENT = IllegalArgumentException.class;
    private static final Class<?> STATE = IllegalStateException.class;
    private static final int[] NO_SOWERS = {-1, 6, MIN, MAX};

    private static int wrong = 0;
    private static String promise = "";

    public static void main(String[] args) {
        newObject();
        begin();
        drawsOfOneKind();
        below();
        between();
        only();
        sixtiethAct();
        draw();
        split();
        splitKeepsToItsBirth();
        again();
        back();
        ofSower();
        row();
        birth();
        act();
        count();
        within();
        tried();
        areLike();
        areTwins();
        common();
        together();
        both();
        pairs();
        children();
        knock();
        house();
        isSound();
        digest();
        System.out.println(wrong == 0 ? "all promises hold" : wrong + " answers are wrong");
        if (wrong != 0) {
            System.exit(1);
        }
    }

    private static void newObject() {
        promise = "1 new object";
        Splitseed x = new Splitseed();
        for (int i = 0; i < 6; i++) {
            due("", x.row(i));
            due("0,0", x.birth(i));
            due(0, x.ofSower(i, 1));
            due(5, x.tried(i));
        }
        due(15, x.house(1));
        due(0, x.house(0));
        due(0, x.house(2));
        due(0, x.house(3));
        due(0, x.house(4));
        due(true, x.isSound());
    }

    private static void begin() {
        promise = "2 begin";
        Splitseed x = new Splitseed();
        due(0, x.begin(0, MIN, MAX));
        due("-2147483648,2147483647", x.birth(0));
        due("0,0", x.birth(1));
        x.whole(0);
        x.split(0, 3);
        x.coin(3);
        due(2, x.begin(0, 5, -6));
        due("5,-6", x.birth(0));
        due("", x.row(0));
        due("-2147483648,2147483647 (i)", x.birth(3));
        due(1, x.begin(3, 5, -6));
        due(0, x.ofSower(3, 1));
        due(0, x.ofSower(3, 4));
        due(true, x.areLike(0, 3));
        due(1, x.both(0, 3));
        due(true, x.whole(3));
        for (int no : NO_SOWERS) {
            dueThrow(INDEX, x, () -> x.begin(no, 1, 2));
        }
        x.begin(2, 0, 0);
        due(true, x.areLike(1, 2));
    }

    private static void drawsOfOneKind() {
        promise = "3 whole, 7 longer, 8 coin";
        Splitseed x = new Splitseed();
        for (int i = 0; i < 20; i++) {
            due(true, x.whole(0));
            due(true, x.longer(0));
            due(true, x.coin(0));
        }
        due(60, x.ofSower(0, 0));
        due(20, x.count(0, 0));
        due(20, x.count(0, 3));
        due(20, x.count(0, 4));
        due("i", x.act(0, 57));
        due("l", x.act(0, 58));
        due("z", x.act(0, 59));
        dueThrow(STATE, x, () -> x.whole(0));
        dueThrow(STATE, x, () -> x.longer(0));
        dueThrow(STATE, x, () -> x.coin(0));
        for (int no : NO_SOWERS) {
            dueThrow(INDEX, x, () -> x.whole(no));
            dueThrow(INDEX, x, () -> x.longer(no));
            dueThrow(INDEX, x, () -> x.coin(no));
        }
        due(true, x.whole(1));
        due("i", x.row(1));
    }

    private static void below() {
        promise = "4 below";
        Splitseed x = new Splitseed();
        due(0, x.below(0, 1));
        due(1, x.below(0, 2));
        due(1, x.below(0, MAX));
        due("b1 b2 b2147483647", x.row(0));
        dueRefused(x, () -> x.below(0, 0));
        dueRefused(x, () -> x.below(0, -1));
        dueRefused(x, () -> x.below(0, MIN));
        for (int no : NO_SOWERS) {
            dueThrow(INDEX, x, () -> x.below(no, 0));
        }
        fill(x, 0);
        dueThrow(STATE, x, () -> x.below(0, 3));
        dueThrow(STATE, x, () -> x.below(0, 0));
        for (int n = 1; n <= 60; n++) {
            due(n == 1 ? 0 : 1, x.below(1, n));
        }
    }

    private static void between() {
        promise = "5 between";
        Splitseed x = new Splitseed();
        due(1, x.between(0, MIN, MAX));
        due(1, x.between(0, -3, -2));
        due(1, x.between(0, MAX - 1, MAX));
        due(1, x.between(0, 0, 1));
        due(1, x.between(0, MIN, MIN + 1));
        due("r-2147483648:2147483647 r-3:-2 r2147483646:2147483647 r0:1 r-2147483648:-2147483647",
                x.row(0));
        dueRefused(x, () -> x.between(0, 5, 5));
        dueRefused(x, () -> x.between(0, MAX, MIN));
        dueRefused(x, () -> x.between(0, 6, 5));
        for (int no : NO_SOWERS) {
            dueThrow(INDEX, x, () -> x.between(no, 5, 5));
        }
        fill(x, 0);
        dueThrow(STATE, x, () -> x.between(0, 1, 2));
        dueThrow(STATE, x, () -> x.between(0, 2, 2));
    }

    private static void only() {
        promise = "6 only";
        Splitseed x = new Splitseed();
        for (int from : new int[] {MIN, MIN + 1, -1, 0, 7, MAX - 1}) {
            due(from, x.only(0, from));
        }
        due("r-1:0", x.act(0, 2));
        due("r2147483646:2147483647", x.act(0, 5));
        dueThrow(ARGUMENT, x, () -> x.only(0, MAX));
        for (int no : NO_SOWERS) {
            dueThrow(INDEX, x, () -> x.only(no, MAX));
        }
        fill(x, 0);
        dueThrow(ARGUMENT, x, () -> x.only(0, MAX));
        dueThrow(STATE, x, () -> x.only(0, 0));
    }

    private static void sixtiethAct() {
        promise = "3 to 8, 10, 24: the sixtieth act";
        for (int kind = 0; kind <= 5; kind++) {
            Splitseed x = new Splitseed();
            fill(x, 0);
            x.back(0, 59);
            doKind(x, 0, kind);
            due(60, x.ofSower(0, 0));
            due(5, x.tried(0));
            int full = kind;
            dueThrow(STATE, x, () -> {
                doKind(x, 0, full);
                return 0;
            });
        }
        Splitseed x = new Splitseed();
        fill(x, 0);
        x.back(0, 59);
        due(17, x.only(0, 17));
    }

    private static void draw() {
        promise = "9 draw";
        Splitseed x = new Splitseed();
        due(1, x.draw(0, 6, 1));
        due(20, x.draw(0, 1, 20));
        due(20, x.draw(0, MAX, 20));
        due("b6", x.act(0, 0));
        due("b1", x.act(0, 20));
        due("b2147483647", x.act(0, 40));
        dueRefused(x, () -> x.draw(0, 0, 19));
        dueRefused(x, () -> x.draw(0, MIN, 1));
        dueThrow(STATE, x, () -> x.draw(0, 6, 20));
        dueThrow(STATE, x, () -> x.draw(0, 0, 20));
        for (int times : new int[] {0, 21, -1, MIN, MAX}) {
            dueThrow(ARGUMENT, x, () -> x.draw(0, 0, times));
            dueThrow(INDEX, x, () -> x.draw(6, 0, times));
        }
        for (int no : NO_SOWERS) {
            dueThrow(INDEX, x, () -> x.draw(no, 2, 2));
        }
        due(19, x.draw(0, 2, 19));
        due(60, x.ofSower(0, 0));
        dueThrow(ARGUMENT, x, () -> x.draw(0, 2, 0));
        dueThrow(STATE, x, () -> x.draw(0, 2, 1));
    }

    private static void split() {
        promise = "10 split";
        Splitseed x = new Splitseed();
        x.whole(5);
        for (int i = 0; i < 4; i++) {
            due(i + 1, x.split(i, i + 1));
        }
        due("s", x.row(0));
        due("", x.row(4));
        due("0,0 () () () ()", x.birth(4));
        dueThrow(STATE, x, () -> x.split(4, 5));
        dueThrow(ARGUMENT, x, () -> x.split(4, 4));
        dueThrow(ARGUMENT, x, () -> x.split(0, 0));
        for (int no : NO_SOWERS) {
            dueThrow(INDEX, x, () -> x.split(no, 0));
            dueThrow(INDEX, x, () -> x.split(4, no));
            dueThrow(INDEX, x, () -> x.split(no, no));
        }
        due(4, x.split(3, 5));
        due("0,0 () () () (s)", x.birth(5));
        due("", x.row(5));
        fill(x, 1);
        dueThrow(STATE, x, () -> x.split(1, 2));
        dueThrow(ARGUMENT, x, () -> x.split(1, 1));
        x.back(1, 59);
        due(2, x.split(1, 2));
        due(60, x.ofSower(1, 0));
        due(59, x.ofSower(2, 4));
    }

    private static void splitKeepsToItsBirth() {
        promise = "10 split, what always holds";
        Splitseed x = new Splitseed();
        for (int i = 0; i < 2; i++) {
            x.begin(i, 3, 4);
            x.draw(i, 9, 3);
            x.split(i, i + 2);
        }
        due(true, x.areLike(2, 3));
        x.whole(0);
        x.split(0, 4);
        x.begin(1, 0, 0);
        for (int i = 0; i < 20; i++) {
            due(1, x.both(2, 3));
        }
        due(true, x.longer(2));
        due(true, x.coin(3));
        due(false, x.areLike(2, 3));
        due(true, x.areTwins(2, 3));
        due(5, x.tried(2));
        due("3,4 (b9 b9 b9 s i)", x.birth(4));
        due(true, x.whole(4));
        due(true, x.isSound());
    }

    private static void again() {
        promise = "11 again";
        Splitseed x = new Splitseed();
        x.begin(0, 8, 9);
        x.draw(0, 5, 2);
        x.split(0, 1);
        x.between(1, 2, 4);
        due(1, x.again(1, 2));
        due(true, x.areLike(1, 2));
        due("8,9 (b5 b5)", x.birth(2));
        due("r2:4", x.row(2));
        due(1, x.both(1, 2));
        due(2, x.again(1, 1));
        due("r2:4 i", x.row(1));
        due(true, x.whole(1));
        due(true, x.coin(2));
        due("r2:4 i i", x.row(1));
        due("r2:4 i z", x.row(2));
        due(3, x.again(0, 5));
        due("b5 b5 s", x.row(5));
        due(1, x.both(0, 5));
        due(0, x.again(3, 0));
        due("0,0", x.birth(0));
        due(true, x.whole(0));
        for (int no : NO_SOWERS) {
            dueThrow(INDEX, x, () -> x.again(no, 1));
            dueThrow(INDEX, x, () -> x.again(1, no));
        }
    }

    private static void back() {
        promise = "12 back";
        Splitseed x = new Splitseed();
        fill(x, 0);
        x.again(0, 1);
        due(0, x.back(0, 60));
        due(1, x.back(0, 59));
        due(true, x.longer(0));
        due(39, x.back(0, 21));
        due(39, x.back(1, 21));
        due(true, x.areLike(0, 1));
        due(1, x.both(0, 1));
        dueThrow(ARGUMENT, x, () -> x.back(0, 23));
        dueThrow(ARGUMENT, x, () -> x.back(0, -1));
        dueThrow(ARGUMENT, x, () -> x.back(0, MAX));
        dueThrow(ARGUMENT, x, () -> x.back(0, MIN));
        for (int no : NO_SOWERS) {
            dueThrow(INDEX, x, () -> x.back(no, -1));
        }
        due(22, x.back(0, 0));
        due(true, x.areLike(0, 2));
        due(1, x.both(0, 2));
        x.split(0, 3);
        x.split(3, 4);
        x.whole(3);
        x.whole(3);
        due(2, x.back(3, 1));
        due("0,0 (i)", x.birth(3));
        due("s", x.row(3));
        due(true, x.whole(3));
        due("0,0 (i) ()", x.birth(4));
        due(0, x.back(4, 0));
    }

    private static void ofSower() {
        promise = "13 ofSower";
        Splitseed x = new Splitseed();
        x.begin(0, MIN, MAX);
        x.draw(0, 4, 5);
        x.split(0, 1);
        x.split(0, 1);
        x.split(1, 2);
        x.coin(1);
        due(new int[] {7, 0, MIN, MAX, 0}, x, 0);
        due(new int[] {2, 1, MIN, MAX, 6}, x, 1);
        due(new int[] {0, 2, MIN, MAX, 6}, x, 2);
        for (int what : new int[] {-1, 5, MIN, MAX}) {
            dueThrow(ARGUMENT, x, () -> x.ofSower(0, what));
            dueThrow(INDEX, x, () -> x.ofSower(6, what));
            dueThrow(INDEX, x, () -> x.ofSower(-1, what));
        }
    }

    private static void due(int[] want, Splitseed x, int sower) {
        for (int what = 0; what < want.length; what++) {
            due(want[what], x.ofSower(sower, what));
        }
    }

    private static void row() {
        promise = "14 row";
        Splitseed x = new Splitseed();
        due("", x.row(0));
        x.whole(0);
        due("i", x.row(0));
        x.below(0, 10);
        x.between(0, -5, 50);
        x.longer(0);
        x.coin(0);
        x.split(0, 1);
        due("i b10 r-5:50 l z s", x.row(0));
        due("", x.row(1));
        due("", x.row(2));
        for (int no : NO_SOWERS) {
            dueThrow(INDEX, x, () -> x.row(no));
        }
    }

    private static void birth() {
        promise = "15 birth";
        Splitseed x = new Splitseed();
        x.begin(0, -1, 20);
        due("-1,20", x.birth(0));
        x.whole(0);
        x.coin(0);
        due("-1,20", x.birth(0));
        x.split(0, 1);
        due("-1,20 (i z)", x.birth(1));
        x.split(1, 2);
        due("-1,20 (i z) ()", x.birth(2));
        x.longer(2);
        x.split(2, 3);
        x.split(3, 4);
        due("-1,20 (i z) () (l) ()", x.birth(4));
        x.split(0, 5);
        due("-1,20 (i z s)", x.birth(5));
        for (int no : NO_SOWERS) {
            dueThrow(INDEX, x, () -> x.birth(no));
        }
    }

    private static void act() {
        promise = "16 act";
        Splitseed x = new Splitseed();
        x.draw(0, 3, 7);
        x.split(0, 1);
        x.whole(1);
        x.between(1, -8, 8);
        due("b3", x.act(0, 0));
        due("s", x.act(0, 7));
        due("i", x.act(1, 0));
        due("r-8:8", x.act(1, 1));
        for (int k : new int[] {-1, 2, 60, MIN, MAX}) {
            dueThrow(INDEX, x, () -> x.act(1, k));
        }
        dueThrow(INDEX, x, () -> x.act(2, 0));
        for (int no : NO_SOWERS) {
            dueThrow(INDEX, x, () -> x.act(no, 0));
        }
    }

    private static void count() {
        promise = "17 count";
        Splitseed x = new Splitseed();
        for (int kind = 0; kind <= 5; kind++) {
            for (int i = 0; i <= kind; i++) {
                doKind(x, 0, kind);
            }
        }
        x.split(0, 1);
        x.back(0, 21);
        for (int kind = 0; kind <= 5; kind++) {
            due(kind + 1, x.count(0, kind));
            due(0, x.count(1, kind));
        }
        for (int kind : new int[] {-1, 6, MIN, MAX}) {
            dueThrow(ARGUMENT, x, () -> x.count(0, kind));
            dueThrow(INDEX, x, () -> x.count(6, kind));
            dueThrow(INDEX, x, () -> x.count(-1, kind));
        }
    }

    private static void doKind(Splitseed x, int sower, int kind) {
        switch (kind) {
            case 0 -> x.whole(sower);
            case 1 -> x.below(sower, 12);
            case 2 -> x.between(sower, 1, 12);
            case 3 -> x.longer(sower);
            case 4 -> x.coin(sower);
            default -> x.split(sower, 5);
        }
    }

    private static void within() {
        promise = "18 within";
        Splitseed x = new Splitseed();
        fill(x, 0);
        String before = told(x);
        due(40, x.within(0, MIN, MAX, 40));
        due(1, x.within(0, 4, 5, 1));
        due(40, x.within(1, -2, 2, 40));
        due(7, x.within(1, MAX - 1, MAX, 7));
        due(before, told(x));
        dueRefused(x, () -> x.within(0, 5, 5, 3));
        dueRefused(x, () -> x.within(0, MAX, MIN, 40));
        for (int times : new int[] {0, 41, -1, MIN, MAX}) {
            dueThrow(ARGUMENT, x, () -> x.within(0, 1, 2, times));
            dueThrow(ARGUMENT, x, () -> x.within(0, 2, 2, times));
            dueThrow(INDEX, x, () -> x.within(6, 2, 2, times));
        }
        due(true, x.whole(1));
    }

    private static void tried() {
        promise = "19 tried";
        Splitseed x = new Splitseed();
        due(5, x.tried(0));
        due("", x.row(0));
        for (int i = 0; i < 4; i++) {
            fill(x, i);
            x.back(i, 59);
            due(1 + i, x.split(i, i + 1));
        }
        fill(x, 4);
        String before = told(x);
        for (int i = 0; i < 6; i++) {
            due(5, x.tried(i));
        }
        due(before, told(x));
        for (int no : NO_SOWERS) {
            dueThrow(INDEX, x, () -> x.tried(no));
        }
        x.back(4, 3);
        due(true, x.whole(4));
    }

    private static void areLike() {
        promise = "20 areLike";
        Splitseed x = new Splitseed();
        due(true, x.areLike(0, 0));
        due(true, x.areLike(0, 5));
        x.below(0, 4);
        due(false, x.areLike(0, 1));
        x.below(1, 5);
        due(false, x.areLike(0, 1));
        x.back(1, 0);
        x.between(1, 0, 4);
        due(false, x.areLike(1, 0));
        x.back(1, 0);
        x.below(1, 4);
        due(true, x.areLike(1, 0));
        x.begin(2, 0, 1);
        x.begin(3, 1, 0);
        due(false, x.areLike(2, 3));
        due(false, x.areLike(2, 4));
        x.split(0, 3);
        x.split(1, 4);
        due(true, x.areLike(3, 4));
        x.split(1, 4);
        due(false, x.areLike(3, 4));
        for (int no : NO_SOWERS) {
            dueThrow(INDEX, x, () -> x.areLike(no, 0));
            dueThrow(INDEX, x, () -> x.areLike(0, no));
        }
    }

    private static void areTwins() {
        promise = "21 areTwins";
        Splitseed x = new Splitseed();
        x.whole(0);
        x.coin(1);
        due(true, x.areTwins(0, 0));
        due(true, x.areTwins(0, 1));
        x.split(0, 3);
        x.split(1, 4);
        due(false, x.areTwins(3, 4));
        x.begin(1, 0, 0);
        x.whole(1);
        x.split(1, 4);
        x.longer(4);
        due(true, x.areTwins(3, 4));
        due(false, x.areTwins(0, 3));
        x.begin(1, 0, 1);
        due(false, x.areTwins(0, 1));
        x.begin(1, 1, 0);
        due(false, x.areTwins(1, 0));
        oneHistoryCutElsewhere();
        for (int no : NO_SOWERS) {
            dueThrow(INDEX, x, () -> x.areTwins(no, 0));
            dueThrow(INDEX, x, () -> x.areTwins(0, no));
        }
    }

    private static void oneHistoryCutElsewhere() {
        Splitseed x = new Splitseed();
        x.whole(0);
        x.split(0, 1);
        x.split(1, 2);
        x.split(3, 4);
        x.whole(4);
        x.split(4, 5);
        due("0,0 (i) ()", x.birth(2));
        due("0,0 () (i)", x.birth(5));
        due(false, x.areTwins(2, 5));
        due(false, x.areLike(2, 5));
        due(NONE, x.common(2, 5));
    }

    private static void common() {
        promise = "22 common";
        Splitseed x = new Splitseed();
        due(0, x.common(0, 1));
        x.draw(0, 6, 3);
        x.draw(1, 6, 2);
        due(2, x.common(0, 1));
        due(2, x.common(1, 0));
        due(3, x.common(0, 0));
        x.below(1, 7);
        x.below(0, 6);
        x.below(1, 6);
        due(2, x.common(0, 1));
        due(0, x.common(0, 2));
        x.split(0, 3);
        x.split(0, 4);
        due(NONE, x.common(0, 3));
        due(NONE, x.common(3, 4));
        x.again(3, 4);
        x.coin(3);
        x.coin(4);
        x.longer(4);
        due(1, x.common(3, 4));
        for (int no : NO_SOWERS) {
            dueThrow(INDEX, x, () -> x.common(no, 0));
            dueThrow(INDEX, x, () -> x.common(0, no));
        }
    }

    private static void together() {
        promise = "23 together";
        Splitseed x = new Splitseed();
        fill(x, 0);
        x.again(0, 1);
        String before = told(x);
        due(40, x.together(0, 1, 40));
        due(1, x.together(1, 0, 1));
        due(9, x.together(0, 0, 9));
        due(3, x.together(2, 3, 3));
        due(before, told(x));
        dueRefused(x, () -> x.together(0, 2, 1));
        dueRefused(x, () -> x.together(2, 0, 40));
        for (int times : new int[] {0, 41, -1, MIN, MAX}) {
            dueThrow(ARGUMENT, x, () -> x.together(0, 1, times));
            dueThrow(ARGUMENT, x, () -> x.together(0, 2, times));
            dueThrow(INDEX, x, () -> x.together(0, 6, times));
            dueThrow(INDEX, x, () -> x.together(6, 0, times));
        }
        due(true, x.whole(2));
        due(true, x.whole(3));
    }

    private static void both() {
        promise = "24 both";
        Splitseed x = new Splitseed();
        due(1, x.both(0, 1));
        due(1, x.both(0, 0));
        due("i i", x.row(0));
        due("i", x.row(1));
        due(NONE, x.both(0, 1));
        due("i i i", x.row(0));
        due("i i", x.row(1));
        due(0, x.house(3));
        due(true, x.coin(0));
        due(true, x.coin(1));
        fill(x, 0);
        dueThrow(STATE, x, () -> x.both(0, 1));
        dueThrow(STATE, x, () -> x.both(1, 0));
        dueThrow(STATE, x, () -> x.both(0, 0));
        for (int no : NO_SOWERS) {
            dueThrow(INDEX, x, () -> x.both(no, 0));
            dueThrow(INDEX, x, () -> x.both(0, no));
        }
        x.back(0, 59);
        due(1, x.both(0, 0));
        due(60, x.ofSower(0, 0));
    }

    private static void pairs() {
        promise = "25 pairs";
        Splitseed x = new Splitseed();
        fill(x, 3);
        String before = told(x);
        due(1, x.pairs(0, 0, 1));
        due(40, x.pairs(MIN, MAX, 40));
        due(before, told(x));
        for (int times : new int[] {0, 41, -1, MIN, MAX}) {
            dueThrow(ARGUMENT, x, () -> x.pairs(1, 1, times));
        }
    }

    private static void children() {
        promise = "26 children";
        Splitseed x = new Splitseed();
        fill(x, 3);
        String before = told(x);
        due(1, x.children(0, 0, 0, 1));
        due(40, x.children(MAX, MIN, 20, 40));
        due(40, x.children(5, 7, 3, 40));
        due(before, told(x));
        for (int ahead : new int[] {-1, 21, MIN, MAX}) {
            dueThrow(ARGUMENT, x, () -> x.children(1, 1, ahead, 3));
        }
        for (int times : new int[] {0, 41, -1, MIN, MAX}) {
            dueThrow(ARGUMENT, x, () -> x.children(1, 1, 3, times));
        }
    }

    private static void knock() {
        promise = "27 knock";
        Splitseed x = new Splitseed();
        for (int i = 1; i <= 12; i++) {
            due(i, x.knock());
            due(i, x.house(4));
        }
        due(0, new Splitseed().house(4));
    }

    private static void house() {
        promise = "28 house";
        Splitseed x = new Splitseed();
        x.draw(0, 2, 20);
        x.whole(5);
        due(21, x.house(0));
        due(6, x.house(1));
        x.split(0, 1);
        x.split(1, 2);
        x.begin(1, 0, 0);
        due(22, x.house(0));
        due(2, x.house(2));
        x.begin(2, 4, 4);
        due(0, x.house(2));
        x.below(2, 0);
        x.between(2, 0, 0);
        x.draw(2, 0, 1);
        x.within(2, 0, 0, 1);
        x.together(1, 2, 1);
        due(5, x.house(3));
        due(3, x.house(1));
        for (int what : new int[] {-1, 5, MIN, MAX}) {
            dueThrow(ARGUMENT, x, () -> x.house(what));
        }
    }

    private static void isSound() {
        promise = "29 isSound";
        Splitseed x = new Splitseed();
        due(true, x.isSound());
        for (int i = 0; i < 4; i++) {
            fill(x, i);
            x.back(i, 59);
            x.split(i, i + 1);
        }
        fill(x, 4);
        x.again(4, 5);
        String before = told(x);
        due(true, x.isSound());
        due(before, told(x));
    }

    private static void digest() {
        promise = "30 digest";
        Splitseed x = new Splitseed();
        due(digestOf(x), x.digest());
        x.begin(2, MIN, MAX);
        fill(x, 2);
        x.back(2, 57);
        x.split(2, 0);
        x.between(0, -10, 100);
        x.between(0, 9, 10);
        x.between(0, 99, 1_000_000_000);
        x.between(0, MIN, -999_999_999);
        x.split(0, 3);
        x.again(0, 4);
        x.below(5, 0);
        x.knock();
        due(digestOf(x), x.digest());
        due(digestOf(x), x.digest());
    }

    /** What the document says of digest(), from the other answers. */
    private static long digestOf(Splitseed x) {
        List<Long> all = new ArrayList<>();
        for (int what = 0; what <= 4; what++) {
            all.add((long) x.house(what));
        }
        for (int i = 0; i < 6; i++) {
            for (int what = 0; what <= 4; what++) {
                all.add((long) x.ofSower(i, what));
            }
            all.add((long) x.row(i).length());
            all.add((long) x.birth(i).length());
            for (int kind = 0; kind <= 5; kind++) {
                all.add((long) x.count(i, kind));
            }
            all.add((long) x.tried(i));
        }
        for (int i = 0; i < 6; i++) {
            for (int j = i + 1; j < 6; j++) {
                all.add(x.areLike(i, j) ? 1L : 0L);
                all.add((long) x.common(i, j));
            }
        }
        all.add(x.isSound() ? 1L : 0L);
        long d = 7732;
        for (long v : all) {
            d = d * 31 + v;
        }
        return d;
    }

    /** Fills a row with acts of all kinds that draw. */
    private static void fill(Splitseed x, int sower) {
        for (int i = x.ofSower(sower, 0); i < 60; i++) {
            doKind(x, sower, i % 5);
        }
    }

    /** All that can be told of an object. */
    private static String told(Splitseed x) {
        StringBuilder all = new StringBuilder();
        for (int what = 0; what <= 4; what++) {
            all.append(x.house(what)).append('/');
        }
        for (int i = 0; i < 6; i++) {
            all.append(x.birth(i)).append('/').append(x.row(i)).append('/');
        }
        return all.append(x.digest()).toString();
    }

    private static String toldBesideRefusals(Splitseed x) {
        StringBuilder all = new StringBuilder();
        for (int i = 0; i < 6; i++) {
            all.append(x.birth(i)).append('/').append(x.row(i)).append('/');
        }
        all.append(x.house(0)).append('/').append(x.house(1)).append('/').append(x.house(2));
        return all.append('/').append(x.house(4)).toString();
    }

    private static void dueRefused(Splitseed x, Supplier<Integer> call) {
        int refusals = x.house(3);
        String before = toldBesideRefusals(x);
        due(REFUSED, call.get());
        due(refusals + 1, x.house(3));
        due(before, toldBesideRefusals(x));
    }

    // The digest alone, as the calls of one object are few; ExceptionsTest and BoundsTest ask all.
    private static void dueThrow(Class<?> want, Splitseed x, Supplier<Object> call) {
        long before = x.digest();
        Object got;
        try {
            got = call.get();
        } catch (RuntimeException e) {
            got = e.getClass();
        }
        due(want, got);
        due(before, x.digest());
    }

    private static void due(Object want, Object got) {
        if (!want.equals(got)) {
            wrong++;
            System.out.println("promise " + promise + ": answered " + got + ", due is " + want);
            StackTraceElement[] stack = new Throwable().getStackTrace();
            for (int i = 1; i < Math.min(4, stack.length); i++) {
                System.out.println("    at " + stack[i]);
            }
        }
    }
}
