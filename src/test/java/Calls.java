import java.util.ArrayList;
import java.util.Arrays;
import java.util.List;

/** All calls that take numbers, with what each number may be in a house of so many things. */
final class Calls {
    interface Call {
        int of(CrookedFrames x, int[] n);
    }

    /** A call by numbers that are taken, and the least and most of each; most below least: none is. */
    record Row(String name, Call call, int[] taken, int[] least, int[] most) {
        int ask(CrookedFrames x, int[] n) {
            return call.of(x, n);
        }

        String with(int[] n) {
            String all = Arrays.toString(n);
            return name + "(" + all.substring(1, all.length() - 1) + ")";
        }

        /** Whether there is any way to take the call. */
        boolean canBe() {
            for (int at = 0; at < taken.length; at++) {
                if (most[at] < least[at]) {
                    return false;
                }
            }
            return true;
        }

        /** Each number by itself beyond its edges, near and far; then all at once. */
        List<int[]> wrong() {
            List<int[]> all = new ArrayList<>();
            for (int at = 0; at < taken.length; at++) {
                int[] beyond = {least[at] - 1, Math.max(most[at], least[at] - 1) + 1, least[at] - 256, most[at] + 257,
                    most[at] + 65536, Integer.MIN_VALUE, Integer.MIN_VALUE + 1, Integer.MAX_VALUE};
                for (int number : beyond) {
                    int[] n = taken.clone();
                    n[at] = number;
                    all.add(n);
                }
            }
            int[] each = {-1, Integer.MIN_VALUE, Integer.MAX_VALUE};
            for (int number : each) {
                int[] n = new int[taken.length];
                Arrays.fill(n, number);
                all.add(n);
            }
            return all;
        }

        /** Each number by itself at its edges. */
        List<int[]> right() {
            List<int[]> all = new ArrayList<>();
            for (int at = 0; at < taken.length && canBe(); at++) {
                int[] low = taken.clone();
                low[at] = least[at];
                all.add(low);
                int[] high = taken.clone();
                high[at] = most[at];
                all.add(high);
            }
            return all;
        }
    }

    private Calls() {
    }

    private static Row row(String name, Call call, int... most) {
        return new Row(name, call, new int[most.length], new int[most.length], most);
    }

    static List<Row> all(int frames, int persons, int turns) {
        int f = frames - 1;
        int p = persons - 1;
        int t = turns - 1;
        List<Row> all = new ArrayList<>();
        all.add(new Row("write", (x, n) -> x.write(n[0]), new int[] {'f'}, new int[] {32}, new int[] {126}));
        all.add(row("frame", (x, n) -> x.frame(n[0], n[1]), f, 3));
        all.add(row("person", (x, n) -> x.person(n[0], n[1]), p, 1));
        all.add(row("angle", (x, n) -> x.angle(n[0], n[1]), f, 30));
        all.add(row("hers", (x, n) -> x.hers(n[0]), 30));
        all.add(row("sets", (x, n) -> x.sets(n[0], n[1]), p, 30));
        all.add(row("told", (x, n) -> x.told(n[0], n[1]), t, 2));
        all.add(row("turn", (x, n) -> x.turn(n[0], n[1], n[2]), 30, f, 40));
        all.add(row("leave", (x, n) -> x.leave(n[0]), t));
        all.add(row("tempt", (x, n) -> x.tempt(n[0], n[1]), p, 30));
        all.add(row("fewest", (x, n) -> x.fewest(n[0], n[1]), (1 << persons) - 1, 30));
        all.add(row("safe", (x, n) -> x.safe(n[0]), 30));
        all.add(row("hang", (x, n) -> x.hang(n[0]), 1));
        all.add(row("seen", (x, n) -> x.seen(n[0], n[1]), 40, 40));
        all.add(row("bears", (x, n) -> x.bears(n[0]), 3));
        all.add(row("look", (x, n) -> x.look(n[0], n[1]), 3, 1));
        all.add(new Row("who", (x, n) -> x.who(n[0], n[1]), new int[] {5, 7}, new int[2], new int[] {40, 40}));
        all.add(row("ends", (x, n) -> x.ends(n[0], n[1], n[2], n[3]), p, p, 40, 1));
        all.add(row("wire", (x, n) -> x.wire(n[0], n[1], n[2], n[3], n[4], n[5]), 40, 20, 6, 10, 10, 1));
        all.add(row("most", (x, n) -> x.most(n[0]), 1));
        all.add(row("patches", (x, n) -> x.patches(n[0]), 30));
        all.add(row("night", (x, n) -> x.night(n[0], n[1]), 9999, 1));
        all.add(row("count", (x, n) -> x.count(n[0]), 7));
        return all;
    }
}
