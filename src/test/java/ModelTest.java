import java.math.BigInteger;
import java.util.ArrayDeque;
import java.util.ArrayList;
import java.util.Deque;
import java.util.HashMap;
import java.util.List;
import java.util.Map;
import java.util.Random;
import java.util.regex.Matcher;
import java.util.regex.Pattern;

/**
 * Random runs of calls, each answered once more by a slow model that is written straight from the
 * document: every day is played anew for each question, every turn and pair of turns is tried.
 */
public final class ModelTest {
    private static final int BAD = -1, NO = -2, FULL = -3, NONE = -4;

    private record Frame(int room, int angle, int[] wire, int[] patch) {
    }

    private record Person(int kind, int bears) {
    }

    private record Coming(int person, int hour, int room) {
    }

    private record Turn(int night, int frame, int by) {
    }

    private static final class House {
        final List<Frame> frames = new ArrayList<>();
        final List<Person> persons = new ArrayList<>();
        final List<Coming> comings = new ArrayList<>();
        final List<Turn> turns = new ArrayList<>();
    }

    /** What one day did. */
    private record Day(int[] angles, Map<Integer, Integer> sets) {
        int bits() {
            int bits = 0;
            for (int i : sets.keySet()) {
                bits |= 1 << i;
            }
            return bits;
        }
    }

    private static final String FIRST = "f0,23;f0,20;f1,15;f1,26;t0,6;t3,4;p0,2;p1,1;p2,3;"
            + "w0,8,0;w1,9,0;w1,10,1;w2,8,1;n1,1,24;n2,2,18;c2,16;";

    private String text = "";
    private House house = parse(FIRST, new int[1]);
    private List<Turn> turns = new ArrayList<>(house.turns);
    private Deque<List<Turn>> undo = new ArrayDeque<>();
    private Deque<List<Turn>> kept = new ArrayDeque<>();
    private List<int[]> seen = new ArrayList<>();

    private static final Pattern ITEM =
            Pattern.compile("([ftpc])(\\d\\d?),(\\d\\d?);|([wn])(\\d\\d?),(\\d\\d?),(\\d\\d?);");

    /** The house, or null with the place of the fault. */
    private static House parse(String text, int[] fault) {
        House h = new House();
        Matcher m = ITEM.matcher(text);
        int at = 0;
        while (at < text.length()) {
            m.region(at, text.length());
            if (!m.lookingAt() || !told(h, m)) {
                fault[0] = at;
                return null;
            }
            at = m.end();
        }
        fault[0] = NONE;
        return h;
    }

    private static boolean told(House h, Matcher m) {
        boolean two = m.group(1) != null;
        char letter = (two ? m.group(1) : m.group(4)).charAt(0);
        int a = Integer.parseInt(m.group(two ? 2 : 5));
        int b = Integer.parseInt(m.group(two ? 3 : 6));
        int c = two ? 0 : Integer.parseInt(m.group(7));
        switch (letter) {
            case 'f':
                return a <= 3 && b <= 40 && h.frames.size() < 7
                        && h.frames.add(new Frame(a, b - 20, new int[1], new int[1]));
            case 't':
                if (a >= h.frames.size() || b > 10) {
                    return false;
                }
                h.frames.get(a).wire[0] = b - 5;
                return true;
            case 'c':
                if (a >= h.frames.size() || b > 40) {
                    return false;
                }
                h.frames.get(a).patch[0] = b - 20;
                return true;
            case 'p':
                return a <= 3 && b <= 20 && h.persons.size() < 5 && h.persons.add(new Person(a, b));
            case 'w':
                return a < h.persons.size() && b <= 23 && c <= 3 && h.comings.size() < 10
                        && h.comings.add(new Coming(a, b, c));
            default:
                return a <= 30 && b < h.frames.size() && c <= 40 && h.turns.size() < 8
                        && h.turns.add(new Turn(a, b, c - 20));
        }
    }

    private static int within(int angle) {
        return angle > 40 ? 40 : angle < -40 ? -40 : angle;
    }

    private static int settle(int kind, int bears, int angle) {
        int off = angle < 0 ? -angle : angle;
        int side = angle < 0 ? -1 : 1;
        if (off <= (kind == 3 ? bears + bears : bears)) {
            return angle;
        }
        int[] to = {0, side * (off / 2), -side * (off / 2), side * bears};
        return to[kind];
    }

    private static int settle(Person p, int angle) {
        return settle(p.kind, p.bears, angle);
    }

    private void come(int[] angles, Map<Integer, Integer> sets) {
        for (int hour = 0; hour < 24; hour++) {
            for (Coming c : house.comings) {
                if (c.hour == hour && !sets.containsKey(c.person)) {
                    Person p = house.persons.get(c.person);
                    for (int k = 0; k < angles.length; k++) {
                        if (house.frames.get(k).room == c.room && settle(p, angles[k]) != angles[k]) {
                            angles[k] = settle(p, angles[k]);
                            sets.put(c.person, k);
                            break;
                        }
                    }
                }
            }
        }
    }

    private int[] asTold() {
        return house.frames.stream().mapToInt(Frame::angle).toArray();
    }

    private int[] morning(int day, List<Turn> all) {
        int[] angles = day == 0 ? asTold() : play(day - 1, all).angles;
        for (int k = 0; k < angles.length; k++) {
            angles[k] = within(angles[k] + house.frames.get(k).wire[0]);
        }
        for (Turn t : all) {
            if (t.night == day) {
                angles[t.frame] = within(angles[t.frame] + t.by);
            }
        }
        return angles;
    }

    private Day play(int day, List<Turn> all) {
        int[] angles = morning(day, all);
        Map<Integer, Integer> sets = new HashMap<>();
        come(angles, sets);
        return new Day(angles, sets);
    }

    private int bitsWith(int[] morning, Turn... more) {
        int[] angles = morning.clone();
        for (Turn t : more) {
            angles[t.frame] = within(angles[t.frame] + t.by);
        }
        Map<Integer, Integer> sets = new HashMap<>();
        come(angles, sets);
        return new Day(angles, sets).bits();
    }

    private List<Turn> singles(int day) {
        List<Turn> all = new ArrayList<>();
        for (int size = 1; size <= 20; size++) {
            for (int k = 0; k < house.frames.size(); k++) {
                all.add(new Turn(day, k, size));
                all.add(new Turn(day, k, -size));
            }
        }
        return all;
    }

    private static boolean off(int x, int least, int most) {
        return x < least || x > most;
    }

    int write(int letter) {
        if (off(letter, 32, 126)) {
            return BAD;
        }
        if (text.length() == 200) {
            return FULL;
        }
        text += (char) letter;
        return text.length();
    }

    int wipe() {
        int was = text.length();
        text = "";
        return was;
    }

    int fault() {
        int[] fault = new int[1];
        parse(text, fault);
        return fault[0];
    }

    int lay() {
        House h = parse(text, new int[1]);
        if (h == null || h.frames.isEmpty()) {
            return NO;
        }
        house = h;
        turns = new ArrayList<>(h.turns);
        undo.clear();
        kept.clear();
        seen.clear();
        return h.frames.size();
    }

    private boolean noFrame(int k) {
        return off(k, 0, house.frames.size() - 1);
    }

    private boolean noPerson(int i) {
        return off(i, 0, house.persons.size() - 1);
    }

    private static boolean noDay(int day) {
        return off(day, 0, 30);
    }

    int frame(int k, int what) {
        if (noFrame(k) || off(what, 0, 3)) {
            return BAD;
        }
        Frame f = house.frames.get(k);
        return new int[] {f.room, f.angle + 40, f.wire[0] + 5, f.patch[0] + 40}[what];
    }

    int person(int i, int what) {
        if (noPerson(i) || off(what, 0, 1)) {
            return BAD;
        }
        Person p = house.persons.get(i);
        return what == 0 ? p.kind : p.bears;
    }

    int angle(int k, int day) {
        return noFrame(k) || noDay(day) ? BAD : play(day, turns).angles[k] + 40;
    }

    int hers(int day) {
        return noDay(day) ? BAD : play(day, turns).bits();
    }

    int sets(int i, int day) {
        return noPerson(i) || noDay(day) ? BAD : play(day, turns).sets.getOrDefault(i, NONE);
    }

    int rest() {
        int rest = NONE;
        int[] ahead = asTold();
        for (int day = 0; day <= 30; day++) {
            int[] now = play(day, turns).angles;
            if (!java.util.Arrays.equals(now, ahead)) {
                rest = NONE;
            } else if (rest == NONE) {
                rest = day;
            }
            ahead = now;
        }
        return rest;
    }

    int sways() {
        int n = 0;
        for (int k = 0; k < house.frames.size(); k++) {
            java.util.Set<Integer> all = new java.util.HashSet<>();
            for (int day = 0; day <= 30; day++) {
                all.add(play(day, turns).angles[k]);
            }
            n += all.size() > 1 ? 1 : 0;
        }
        return n;
    }

    int told(int k, int what) {
        if (off(k, 0, turns.size() - 1) || off(what, 0, 2)) {
            return BAD;
        }
        Turn t = turns.get(k);
        return new int[] {t.night, t.frame, t.by + 20}[what];
    }

    private void remember() {
        undo.push(new ArrayList<>(turns));
        if (undo.size() > 8) {
            undo.removeLast();
        }
    }

    int turn(int night, int k, int d) {
        if (noDay(night) || noFrame(k) || off(d, 0, 40)) {
            return BAD;
        }
        if (turns.size() == 8) {
            return FULL;
        }
        remember();
        turns.add(new Turn(night, k, d - 20));
        return turns.size();
    }

    int leave(int k) {
        if (off(k, 0, turns.size() - 1)) {
            return BAD;
        }
        remember();
        turns.remove(k);
        return turns.size();
    }

    int undo() {
        if (undo.isEmpty()) {
            return NO;
        }
        turns = undo.pop();
        return undo.size();
    }

    int tempt(int i, int day) {
        if (noPerson(i) || noDay(day)) {
            return BAD;
        }
        int[] morning = morning(day, turns);
        for (Turn t : singles(day)) {
            if ((bitsWith(morning, t) >> i & 1) == 1) {
                return 100 * t.frame + t.by + 20;
            }
        }
        return NONE;
    }

    int fewest(int set, int day) {
        if (off(set, 0, (1 << house.persons.size()) - 1) || noDay(day)) {
            return BAD;
        }
        int[] morning = morning(day, turns);
        if ((bitsWith(morning) & set) == set) {
            return 0;
        }
        List<Turn> singles = singles(day);
        for (Turn t : singles) {
            if ((bitsWith(morning, t) & set) == set) {
                return 1;
            }
        }
        for (Turn t : singles) {
            for (Turn u : singles) {
                if (t.frame <= u.frame && (bitsWith(morning, t, u) & set) == set) {
                    return 2;
                }
            }
        }
        return NONE;
    }

    int safe(int day) {
        if (noDay(day)) {
            return BAD;
        }
        int[] morning = morning(day, turns);
        int got = bitsWith(morning);
        for (Turn t : singles(day)) {
            got |= bitsWith(morning, t);
        }
        return ((1 << house.persons.size()) - 1) - got;
    }

    /** Each frame by itself: the nearest angle that all who come there leave as it is. */
    int hang(int what) {
        if (off(what, 0, 1)) {
            return BAD;
        }
        int hairs = 0;
        int frames = 0;
        for (Frame f : house.frames) {
            int least = 1000;
            for (int to = -40; to <= 40; to++) {
                boolean left = true;
                for (Coming c : house.comings) {
                    left &= c.room != f.room || settle(house.persons.get(c.person), to) == to;
                }
                least = left ? Math.min(least, Math.abs(to - f.angle)) : least;
            }
            hairs += least;
            frames += least > 0 ? 1 : 0;
        }
        return what == 0 ? hairs : frames;
    }

    int seen(int a, int b) {
        if (off(a, 0, 40) || off(b, 0, 40)) {
            return BAD;
        }
        if (seen.size() == 8) {
            return FULL;
        }
        seen.add(new int[] {a - 20, b - 20});
        return seen.size();
    }

    int forget() {
        int was = seen.size();
        seen.clear();
        return was;
    }

    private List<Integer> fitting(int kind) {
        List<Integer> all = new ArrayList<>();
        for (int b = 0; b <= 20; b++) {
            boolean so = true;
            for (int[] s : seen) {
                so &= settle(kind, b, s[0]) == s[1];
            }
            if (so) {
                all.add(b);
            }
        }
        return all;
    }

    int bears(int kind) {
        return off(kind, 0, 3) ? BAD : fitting(kind).stream().mapToInt(b -> 1 << b).sum();
    }

    int look(int kind, int what) {
        if (off(kind, 0, 3) || off(what, 0, 1)) {
            return BAD;
        }
        List<Integer> all = fitting(kind);
        if (all.isEmpty()) {
            return NONE;
        }
        int best = 0;
        int least = 1000;
        for (int angle = 0; angle <= 20; angle++) {
            Map<Integer, Integer> groups = new HashMap<>();
            for (int b : all) {
                groups.merge(settle(kind, b, angle), 1, Integer::sum);
            }
            int worst = java.util.Collections.max(groups.values());
            if (worst < least) {
                least = worst;
                best = angle;
            }
        }
        return what == 0 ? best : least;
    }

    int who(int a, int b) {
        if (off(a, 0, 40) || off(b, 0, 40) || a == b) {
            return BAD;
        }
        int bits = 0;
        for (int i = 0; i < house.persons.size(); i++) {
            bits |= settle(house.persons.get(i), a - 20) == b - 20 ? 1 << i : 0;
        }
        return bits;
    }

    int ends(int i, int j, int a, int what) {
        if (noPerson(i) || noPerson(j) || off(a, 0, 40) || off(what, 0, 1)) {
            return BAD;
        }
        Person[] two = {house.persons.get(i), house.persons.get(j)};
        int now = a - 20;
        int n = 0;
        while (settle(two[0], now) != now || settle(two[1], now) != now) {
            now = settle(two[n % 2], now);
            n++;
            if (n > 1000) {
                return NONE;
            }
        }
        return what == 0 ? now + 40 : n;
    }

    /** By trying all ways of the nights, one behind the other. */
    private static long ways(int angle, int l, int n, int x, int y) {
        if (n == 0) {
            return Math.abs(angle) <= l ? 1 : 0;
        }
        return x * ways(angle + 1, l, n - 1, x, y) + y * ways(angle - 1, l, n - 1, x, y)
                + (10 - x - y) * ways(angle, l, n - 1, x, y);
    }

    int wire(int a, int l, int n, int x, int y, int part) {
        if (off(a, 0, 40) || off(l, 0, 20) || off(n, 0, 6) || off(x, 0, 10) || off(y, 0, 10)
                || x + y > 10 || off(part, 0, 1)) {
            return BAD;
        }
        BigInteger above = BigInteger.valueOf(ways(a - 20, l, n, x, y));
        BigInteger below = BigInteger.TEN.pow(n);
        return (part == 0 ? above : below).divide(above.gcd(below)).intValueExact();
    }

    int most(int what) {
        if (off(what, 0, 1)) {
            return BAD;
        }
        int best = NONE;
        int often = NONE;
        for (int i = 0; i < house.persons.size(); i++) {
            int n = 0;
            for (int day = 0; day <= 30; day++) {
                n += play(day, turns).sets.containsKey(i) ? 1 : 0;
            }
            if (n > often) {
                often = n;
                best = i;
            }
        }
        return what == 0 ? best : often;
    }

    int patches(int day) {
        if (noDay(day)) {
            return BAD;
        }
        int[] angles = play(day, turns).angles;
        int n = 0;
        for (int k = 0; k < angles.length; k++) {
            n += angles[k] == house.frames.get(k).patch[0] ? 1 : 0;
        }
        return n;
    }

    int night(int z, int what) {
        if (off(z, 0, 9999) || off(what, 0, 1)) {
            return BAD;
        }
        List<Turn> drawn = new ArrayList<>();
        int often = 0;
        int last = 0;
        for (int d = 0; d <= 30; d++) {
            BigInteger q = BigInteger.valueOf(7919L * z + 6151L * d + 1);
            int draw = q.pow(2).mod(BigInteger.valueOf(65521)).intValue();
            drawn.add(new Turn(d, draw % house.frames.size(), draw / 8 % 41 - 20));
            Day day = play(d, drawn);
            often += day.sets.size();
            last = day.angles[0];
        }
        return what == 0 ? often : last + 40;
    }

    int keep() {
        if (kept.size() == 2) {
            return FULL;
        }
        kept.push(new ArrayList<>(turns));
        return kept.size();
    }

    int back() {
        if (kept.isEmpty()) {
            return NO;
        }
        turns = kept.pop();
        undo.clear();
        return kept.size();
    }

    int count(int what) {
        if (off(what, 0, 7)) {
            return BAD;
        }
        return new int[] {house.frames.size(), house.persons.size(), house.comings.size(), turns.size(),
            seen.size(), undo.size(), kept.size(), text.length()}[what];
    }

    // ---- the runs

    private static Random random;

    /** Mostly 0 to most, now and then beyond. */
    private static int some(int most) {
        int luck = random.nextInt(40);
        if (luck == 0) {
            return -1 - random.nextInt(2);
        }
        if (luck == 1) {
            return most + 1 + random.nextInt(2);
        }
        return random.nextInt(most + 1);
    }

    private static int few(int most) {
        return random.nextInt(most + 1);
    }

    private static String item(String letter, int... numbers) {
        StringBuilder b = new StringBuilder(letter);
        for (int n = 0; n < numbers.length; n++) {
            b.append(n > 0 ? "," : "").append(numbers[n]);
        }
        return b.append(";").toString();
    }

    private static String someText() {
        StringBuilder b = new StringBuilder();
        int frames = 1 + few(6);
        int persons = few(5);
        int rooms = few(3);
        int calm = random.nextInt(3) == 0 ? 20 : 4;
        for (int k = 0; k < frames; k++) {
            b.append(item("f", few(rooms), few(40)));
        }
        for (int i = 0; i < persons; i++) {
            b.append(item("p", few(3), few(calm)));
        }
        for (int n = few(10); n > 0 && persons > 0; n--) {
            b.append(item("w", few(persons - 1), few(random.nextBoolean() ? 3 : 23), few(rooms)));
        }
        for (int n = few(4); n > 0; n--) {
            b.append(item("t", few(frames - 1), few(10)));
        }
        for (int n = few(8); n > 0; n--) {
            b.append(item("n", few(30), few(frames - 1), few(40)));
        }
        for (int n = few(4); n > 0; n--) {
            b.append(item("c", few(frames - 1), few(40)));
        }
        if (random.nextInt(4) == 0) {
            b.setCharAt(few(b.length() - 1), "f0,;tpwnc12 9".charAt(few(12)));
        }
        if (random.nextInt(6) == 0) {
            b.deleteCharAt(few(b.length() - 1));
        }
        return b.toString();
    }

    private static void tellHouse(CrookedFrames x, ModelTest y) {
        Due.is("wipe()", x.wipe(), y.wipe());
        String text = someText();
        for (int n = 0; n < text.length(); n++) {
            Due.is("write", x.write(text.charAt(n)), y.write(text.charAt(n)));
        }
        Due.is("fault() of " + text, x.fault(), y.fault());
        Due.is("lay() of " + text, x.lay(), y.lay());
    }

    private static void step(CrookedFrames x, ModelTest y, String run) {
        int a = some(6);
        int day = some(30);
        int what = some(3);
        int i = some(4);
        int p = some(40);
        int q = random.nextInt(3) == 0 ? p : some(40);
        int kind = some(3);
        switch (random.nextInt(27)) {
            case 0 -> Due.is(run + "frame", x.frame(a, what), y.frame(a, what));
            case 1 -> Due.is(run + "person", x.person(i, what), y.person(i, what));
            case 2 -> Due.is(run + "angle", x.angle(a, day), y.angle(a, day));
            case 3 -> Due.is(run + "hers", x.hers(day), y.hers(day));
            case 4 -> Due.is(run + "sets", x.sets(i, day), y.sets(i, day));
            case 5 -> Due.is(run + "rest", x.rest(), y.rest());
            case 6 -> Due.is(run + "sways", x.sways(), y.sways());
            case 7 -> Due.is(run + "told", x.told(a, what), y.told(a, what));
            case 8, 9 -> Due.is(run + "turn", x.turn(day, a, p), y.turn(day, a, p));
            case 10 -> Due.is(run + "leave", x.leave(a), y.leave(a));
            case 11 -> Due.is(run + "undo", x.undo(), y.undo());
            case 12 -> Due.is(run + "tempt(" + i + ", " + day + ")", x.tempt(i, day), y.tempt(i, day));
            case 13 -> Due.is(run + "safe", x.safe(day), y.safe(day));
            case 14 -> Due.is(run + "hang", x.hang(what), y.hang(what));
            case 15 -> Due.is(run + "seen", x.seen(p, q), y.seen(p, q));
            case 16 -> Due.is(run + "forget", x.forget(), y.forget());
            case 17 -> Due.is(run + "bears", x.bears(kind), y.bears(kind));
            case 18 -> Due.is(run + "look", x.look(kind, what), y.look(kind, what));
            case 19 -> Due.is(run + "who", x.who(p, q), y.who(p, q));
            case 20 -> Due.is(run + "ends", x.ends(i, kind, p, what), y.ends(i, kind, p, what));
            case 21 -> Due.is(run + "most", x.most(what), y.most(what));
            case 22 -> Due.is(run + "patches", x.patches(day), y.patches(day));
            case 23 -> Due.is(run + "night", x.night(p * 251, what), y.night(p * 251, what));
            case 24 -> Due.is(run + "keep", x.keep(), y.keep());
            case 25 -> Due.is(run + "back", x.back(), y.back());
            default -> Due.is(run + "count", x.count(a + 1), y.count(a + 1));
        }
    }

    private static void wires(CrookedFrames x, ModelTest y) {
        for (int n = 0; n < 20; n++) {
            int[] w = {some(40), some(20), some(6), some(10), some(10), some(1)};
            if (random.nextBoolean()) {
                w[4] = few(10 - Math.max(0, Math.min(10, w[3])));
            }
            Due.is("wire" + java.util.Arrays.toString(w), x.wire(w[0], w[1], w[2], w[3], w[4], w[5]),
                    y.wire(w[0], w[1], w[2], w[3], w[4], w[5]));
        }
    }

    /** What somebody of one kind does, so that some B is left. */
    private static void sights(CrookedFrames x, ModelTest y) {
        Due.is("forget", x.forget(), y.forget());
        int kind = few(3);
        int b = few(20);
        for (int n = few(4); n > 0; n--) {
            int a = few(40);
            int to = settle(kind, b, a - 20) + 20;
            Due.is("seen", x.seen(a, to), y.seen(a, to));
        }
        for (int k = 0; k < 4; k++) {
            Due.is("bears", x.bears(k), y.bears(k));
            Due.is("look", x.look(k, 0), y.look(k, 0));
            Due.is("look", x.look(k, 1), y.look(k, 1));
        }
    }

    /** Houses of few frames and many comings, where it often takes two turns, or two do not do. */
    private static void smallHouses() {
        CrookedFrames x = new CrookedFrames();
        int[] answers = new int[4];
        for (int run = 0; run < 1200; run++) {
            random = new Random(run);
            // One object for four houses: what calls leave behind is met by houses of all sizes.
            x = run % 4 == 0 ? new CrookedFrames() : x;
            ModelTest y = new ModelTest();
            int frames = 1 + few(2);
            int persons = 2 + few(3);
            int rooms = few(1);
            StringBuilder b = new StringBuilder();
            for (int k = 0; k < frames; k++) {
                b.append(item("f", few(rooms), run % 2 == 0 ? 12 + few(16) : few(40)));
            }
            for (int i = 0; i < persons; i++) {
                b.append(item("p", few(3), few(20)));
            }
            for (int n = 0; n < 10; n++) {
                b.append(item("w", few(persons - 1), few(23), few(rooms)));
            }
            x.wipe();
            Due.write(x, b.toString());
            x.lay();
            y.text = b.toString();
            y.lay();
            int set = 1 + few((1 << persons) - 2);
            int got = x.fewest(set, 0);
            answers[got == NONE ? 3 : got]++;
            Due.is("fewest(" + set + ", 0) of " + b, got, y.fewest(set, 0));
            Due.is("safe(0) of " + b, x.safe(0), y.safe(0));
        }
        for (int n = 0; n < 4; n++) {
            Due.is("answers of each sort", answers[n] > 50 ? 1 : answers[n], 1);
        }
        System.out.println("fewest: " + java.util.Arrays.toString(answers));
    }

    /** Two houses with much of everything, asked for all that can be asked of some days. */
    private static void fullHouses() {
        String[] texts = {"f0,33;f0,12;f1,20;f2,38;f2,1;f3,25;t0,3;t2,8;t4,5;t5,4;p0,3;p1,2;p2,4;p3,5;p1,0;"
                + "w0,6,0;w0,12,2;w1,6,1;w2,9,2;w3,9,0;w3,10,3;w4,20,2;n0,1,40;n3,2,0;n5,5,35;c0,25;c3,18;",
            "f0,40;f0,40;f0,40;f0,0;f0,0;f0,0;f0,20;t0,10;t1,10;t3,0;t4,0;p0,0;p1,0;p2,0;p3,0;p3,20;"
                + "w0,0,0;w1,0,0;w2,0,0;w3,0,0;w4,0,0;w0,23,0;w1,23,0;w2,23,0;w3,23,0;w4,23,0;n30,6,0;"};
        for (String text : texts) {
            ModelTest y = new ModelTest();
            y.text = text;
            y.lay();
            // An object for each kind of question, so that none is asked more than 512 times.
            CrookedFrames[] x = {Due.laid(text), Due.laid(text), Due.laid(text), Due.laid(text)};
            int[] some = {0, 1, 5, 30};
            for (int day : some) {
                for (int set = 0; set < 32; set++) {
                    Due.is("fewest(" + set + ", " + day + ") of " + text, x[0].fewest(set, day), y.fewest(set, day));
                }
            }
            for (int day = 0; day <= 30; day++) {
                for (int k = 0; k < y.house.frames.size(); k++) {
                    Due.is("angle(" + k + ", " + day + ") of " + text, x[1].angle(k, day), y.angle(k, day));
                }
                for (int i = 0; i < 5; i++) {
                    Due.is("sets(" + i + ", " + day + ") of " + text, x[2].sets(i, day), y.sets(i, day));
                    Due.is("tempt(" + i + ", " + day + ") of " + text, x[3].tempt(i, day), y.tempt(i, day));
                }
                Due.is("hers(" + day + ") of " + text, x[1].hers(day), y.hers(day));
                Due.is("safe(" + day + ") of " + text, x[2].safe(day), y.safe(day));
                Due.is("patches(" + day + ") of " + text, x[3].patches(day), y.patches(day));
                Due.is("night(" + 333 * day + ", 0) of " + text, x[2].night(333 * day, 0), y.night(333 * day, 0));
                Due.is("night(" + 333 * day + ", 1) of " + text, x[3].night(333 * day, 1), y.night(333 * day, 1));
            }
        }
    }

    public static void main(String[] args) {
        smallHouses();
        fullHouses();
        for (int run = 0; run < 1500; run++) {
            random = new Random(run);
            CrookedFrames x = new CrookedFrames();
            ModelTest y = new ModelTest();
            if (run % 10 != 0) {
                tellHouse(x, y);
            }
            sights(x, y);
            for (int n = 0; n < 200; n++) {
                step(x, y, "run " + run + ", step " + n + ": ");
            }
            for (int n = 0; n < 3 && run % 5 == 0; n++) {
                int set = random.nextInt(1 << Math.max(0, y.count(1)));
                int day = random.nextInt(31);
                Due.is("run " + run + ": fewest(" + set + ", " + day + ") of " + y.text,
                        x.fewest(set, day), y.fewest(set, day));
            }
            Due.is("fewest, wrong", x.fewest(1 << y.count(1), 0), BAD);
            wires(x, y);
        }
        Due.close();
    }
}
