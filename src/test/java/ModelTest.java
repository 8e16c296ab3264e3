import java.util.ArrayList;
import java.util.List;
import java.util.Random;

/** Long runs of calls, each answer beside that of a model that keeps nothing but the texts. */
public final class ModelTest {
    private static final int RUNS = 400;
    private static final int CALLS = 512;
    private static final int[] EDGES = {Integer.MIN_VALUE, Integer.MIN_VALUE + 1, -2, -1, 0, 1, 2, 3,
        10, Integer.MAX_VALUE - 1, Integer.MAX_VALUE};

    private static final class Sower {
        int first;
        int second;
        List<List<String>> births = new ArrayList<>();
        List<String> row = new ArrayList<>();

        Sower copy() {
            Sower c = new Sower();
            c.first = first;
            c.second = second;
            c.births.addAll(births);
            c.row.addAll(row);
            return c;
        }

        String birth() {
            StringBuilder t = new StringBuilder(first + "," + second);
            births.forEach(b -> t.append(" (").append(String.join(" ", b)).append(")"));
            return t.toString();
        }

        String text() {
            return String.join(" ", row);
        }

        long birthActs() {
            return births.stream().mapToInt(List::size).sum();
        }

        boolean isLike(Sower o) {
            return birth().equals(o.birth()) && text().equals(o.text());
        }
    }

    private static final class Model {
        final Sower[] all = new Sower[6];
        int refusals;
        int knocks;

        Model() {
            for (int i = 0; i < 6; i++) {
                all[i] = new Sower();
            }
        }

        Sower at(int i) {
            require(i >= 0 && i < 6, new IndexOutOfBoundsException());
            return all[i];
        }

        static void require(boolean holds, RuntimeException e) {
            if (!holds) {
                throw e;
            }
        }

        static void argument(boolean holds) {
            require(holds, new IllegalArgumentException());
        }

        static void room(Sower s, int more) {
            require(s.row.size() + more <= 60, new IllegalStateException());
        }

        static Object act(Sower s, String text, Object answer) {
            s.row.add(text);
            return answer;
        }

        Object refuse() {
            refusals++;
            return -9;
        }

        Object answer(String name, int[] a) {
            switch (name) {
                case "begin": {
                    Sower s = at(a[0]);
                    all[a[0]] = new Sower();
                    all[a[0]].first = a[1];
                    all[a[0]].second = a[2];
                    return s.row.size();
                }
                case "whole":
                    room(at(a[0]), 1);
                    return act(at(a[0]), "i", true);
                case "longer":
                    room(at(a[0]), 1);
                    return act(at(a[0]), "l", true);
                case "coin":
                    room(at(a[0]), 1);
                    return act(at(a[0]), "z", true);
                case "below":
                    room(at(a[0]), 1);
                    return a[1] < 1 ? refuse() : act(at(a[0]), "b" + a[1], a[1] == 1 ? 0 : 1);
                case "between":
                    room(at(a[0]), 1);
                    return a[1] >= a[2] ? refuse() : act(at(a[0]), "r" + a[1] + ":" + a[2], 1);
                case "only": {
                    Sower s = at(a[0]);
                    argument(a[1] != Integer.MAX_VALUE);
                    room(s, 1);
                    return act(s, "r" + a[1] + ":" + (a[1] + 1), a[1]);
                }
                case "draw": {
                    Sower s = at(a[0]);
                    argument(a[2] >= 1 && a[2] <= 20);
                    room(s, a[2]);
                    if (a[1] < 1) {
                        return refuse();
                    }
                    for (int i = 0; i < a[2]; i++) {
                        s.row.add("b" + a[1]);
                    }
                    return a[2];
                }
                case "split": {
                    Sower s = at(a[0]);
                    at(a[1]);
                    argument(a[0] != a[1]);
                    room(s, 1);
                    require(s.births.size() < 4, new IllegalStateException());
                    Sower c = s.copy();
                    c.births.add(c.row);
                    c.row = new ArrayList<>();
                    all[a[1]] = c;
                    return act(s, "s", c.births.size());
                }
                case "again":
                    at(a[1]);
                    all[a[1]] = at(a[0]).copy();
                    return all[a[1]].row.size();
                case "back": {
                    Sower s = at(a[0]);
                    int had = s.row.size();
                    argument(a[1] >= 0 && a[1] <= had);
                    s.row = new ArrayList<>(s.row.subList(0, a[1]));
                    return had - a[1];
                }
                default:
                    return asked(name, a);
            }
        }

        Object asked(String name, int[] a) {
            switch (name) {
                case "ofSower":
                    at(a[0]);
                    argument(a[1] >= 0 && a[1] <= 4);
                    return (int) ofSower(at(a[0]), a[1]);
                case "row":
                    return at(a[0]).text();
                case "birth":
                    return at(a[0]).birth();
                case "act":
                    require(a[1] >= 0 && a[1] < at(a[0]).row.size(),
                            new IndexOutOfBoundsException());
                    return at(a[0]).row.get(a[1]);
                case "count":
                    at(a[0]);
                    argument(a[1] >= 0 && a[1] <= 5);
                    return (int) count(at(a[0]), a[1]);
                case "within":
                    at(a[0]);
                    argument(a[3] >= 1 && a[3] <= 40);
                    return a[1] >= a[2] ? refuse() : a[3];
                case "tried":
                    at(a[0]);
                    return 5;
                case "areLike":
                    return at(a[0]).isLike(at(a[1]));
                case "areTwins":
                    return at(a[0]).birth().equals(at(a[1]).birth());
                case "common":
                    return (int) common(at(a[0]), at(a[1]));
                case "together":
                    at(a[0]);
                    at(a[1]);
                    argument(a[2] >= 1 && a[2] <= 40);
                    return at(a[0]).isLike(at(a[1])) ? a[2] : refuse();
                case "both": {
                    Sower s = at(a[0]);
                    Sower o = at(a[1]);
                    room(s, 1);
                    room(o, 1);
                    int answer = s.isLike(o) ? 1 : -1;
                    s.row.add("i");
                    if (s != o) {
                        o.row.add("i");
                    }
                    return answer;
                }
                case "pairs":
                    argument(a[2] >= 1 && a[2] <= 40);
                    return a[2];
                case "children":
                    argument(a[2] >= 0 && a[2] <= 20 && a[3] >= 1 && a[3] <= 40);
                    return a[3];
                case "knock":
                    return ++knocks;
                case "house":
                    argument(a[0] >= 0 && a[0] <= 4);
                    return (int) house(a[0]);
                case "isSound":
                    return true;
                default:
                    return digest();
            }
        }

        static long ofSower(Sower s, int what) {
            return new long[] {s.row.size(), s.births.size(), s.first, s.second, s.birthActs()}[what];
        }

        static long count(Sower s, int kind) {
            return s.row.stream().filter(t -> t.charAt(0) == "ibrlzs".charAt(kind)).count();
        }

        static long common(Sower s, Sower o) {
            if (!s.birth().equals(o.birth())) {
                return -1;
            }
            int k = 0;
            while (k < s.row.size() && k < o.row.size() && s.row.get(k).equals(o.row.get(k))) {
                k++;
            }
            return k;
        }

        long house(int what) {
            long acts = 0;
            long like = 0;
            long greatest = 0;
            for (int i = 0; i < 6; i++) {
                acts += all[i].row.size();
                greatest = Math.max(greatest, all[i].births.size());
                for (int j = 0; j < i; j++) {
                    like += all[i].isLike(all[j]) ? 1 : 0;
                }
            }
            return new long[] {acts, like, greatest, refusals, knocks}[what];
        }

        long digest() {
            long d = 7732;
            for (int what = 0; what <= 4; what++) {
                d = d * 31 + house(what);
            }
            for (Sower s : all) {
                for (int what = 0; what <= 4; what++) {
                    d = d * 31 + ofSower(s, what);
                }
                d = d * 31 + s.text().length();
                d = d * 31 + s.birth().length();
                for (int kind = 0; kind <= 5; kind++) {
                    d = d * 31 + count(s, kind);
                }
                d = d * 31 + 5;
            }
            for (int i = 0; i < 6; i++) {
                for (int j = i + 1; j < 6; j++) {
                    d = d * 31 + (all[i].isLike(all[j]) ? 1 : 0);
                    d = d * 31 + common(all[i], all[j]);
                }
            }
            return d * 31 + 1;
        }
    }

    private static Object answer(Splitseed x, String name, int[] a) {
        return switch (name) {
            case "begin" -> x.begin(a[0], a[1], a[2]);
            case "whole" -> x.whole(a[0]);
            case "below" -> x.below(a[0], a[1]);
            case "between" -> x.between(a[0], a[1], a[2]);
            case "only" -> x.only(a[0], a[1]);
            case "longer" -> x.longer(a[0]);
            case "coin" -> x.coin(a[0]);
            case "draw" -> x.draw(a[0], a[1], a[2]);
            case "split" -> x.split(a[0], a[1]);
            case "again" -> x.again(a[0], a[1]);
            case "back" -> x.back(a[0], a[1]);
            case "ofSower" -> x.ofSower(a[0], a[1]);
            case "row" -> x.row(a[0]);
            case "birth" -> x.birth(a[0]);
            case "act" -> x.act(a[0], a[1]);
            case "count" -> x.count(a[0], a[1]);
            case "within" -> x.within(a[0], a[1], a[2], a[3]);
            case "tried" -> x.tried(a[0]);
            case "areLike" -> x.areLike(a[0], a[1]);
            case "areTwins" -> x.areTwins(a[0], a[1]);
            case "common" -> x.common(a[0], a[1]);
            case "together" -> x.together(a[0], a[1], a[2]);
            case "both" -> x.both(a[0], a[1]);
            case "pairs" -> x.pairs(a[0], a[1], a[2]);
            case "children" -> x.children(a[0], a[1], a[2], a[3]);
            case "knock" -> x.knock();
            case "house" -> x.house(a[0]);
            case "isSound" -> x.isSound();
            default -> x.digest();
        };
    }

    // A letter an argument: s sower, n number, t times, k place or kind.
    private static final String[] CALLS_AND_ARGUMENTS = {"begin snn", "whole s", "below sn",
        "between snn", "only sn", "longer s", "coin s", "draw snt", "split ss", "again ss", "back sk",
        "ofSower sk", "row s", "birth s", "act sk", "count sk", "within snnt", "tried s",
        "areLike ss", "areTwins ss", "common ss", "together sst", "both ss", "pairs nnt",
        "children nntt", "knock ", "house k", "isSound ", "digest "};

    private static int argument(Random r, char letter, int sowers) {
        if (r.nextInt(60) == 0) {
            return EDGES[r.nextInt(EDGES.length)];
        }
        return switch (letter) {
            case 's' -> r.nextInt(sowers);
            case 'n' -> r.nextInt(3) == 0 ? EDGES[r.nextInt(EDGES.length)] : r.nextInt(3);
            case 't' -> r.nextInt(43) - 1;
            default -> r.nextInt(4) == 0 ? r.nextInt(62) : r.nextInt(7);
        };
    }

    private static Object outcome(java.util.function.Supplier<Object> call) {
        try {
            return call.get();
        } catch (RuntimeException e) {
            return "throws." + e.getClass().getSimpleName();
        }
    }

    private static boolean runHolds(int run) {
        Random r = new Random(run);
        int sowers = 2 + r.nextInt(5);
        int calm = r.nextInt(4);
        Splitseed x = new Splitseed();
        Model m = new Model();
        StringBuilder log = new StringBuilder();
        for (int i = 0; i < CALLS; i++) {
            String[] call = CALLS_AND_ARGUMENTS[r.nextInt(CALLS_AND_ARGUMENTS.length)].split(" ", -1);
            // Some runs seldom begin anew or step back, so that rows fill and births grow deep.
            boolean unsettles = call[0].equals("begin") || call[0].equals("back");
            if (unsettles && r.nextInt(10) < 3 * calm) {
                continue;
            }
            int[] a = new int[call[1].length()];
            for (int k = 0; k < a.length; k++) {
                a[k] = argument(r, call[1].charAt(k), sowers);
            }
            Object want = outcome(() -> m.answer(call[0], a));
            Object got = outcome(() -> answer(x, call[0], a));
            log.append(call[0]).append(java.util.Arrays.toString(a)).append(' ').append(got)
                    .append('\n');
            if (!want.equals(got)) {
                System.out.println("run " + run + ", due is " + want + " in the last row:\n" + log);
                return false;
            }
        }
        return true;
    }

    public static void main(String[] args) {
        for (int run = 0; run < RUNS; run++) {
            if (!runHolds(run)) {
                System.exit(1);
            }
        }
        System.out.println(RUNS + " runs of up to " + CALLS + " calls answer as the model does");
    }
}
