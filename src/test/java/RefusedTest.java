import java.util.List;
import java.util.function.Supplier;
import java.util.function.ToIntFunction;

/**
 * The last paragraph of the document: which numbers are BAD, what comes first of several, and that
 * nothing changes behind a refused call: a twin without that call is in the same state.
 */
public final class RefusedTest {
    private static final int BAD = -1, NO = -2, FULL = -3, NONE = -4;
    private static final String WHOLE = "f0,40;f1,13;f0,22;f2,0;f3,20;f0,19;f1,31;p0,2;p1,0;p2,3;p3,4;p0,9;"
            + "w0,0,0;w1,5,1;w2,3,2;w3,9,3;w4,9,0;w0,8,1;w1,2,2;w2,1,3;w3,4,0;w4,7,1;"
            + "n0,0,1;n1,1,2;n2,2,3;n3,3,4;n4,4,5;n5,5,6;n6,6,7;n0,0,8;";

    private RefusedTest() {
    }

    public static void main(String[] args) {
        List<Supplier<CrookedFrames>> states = List.of(CrookedFrames::new, RefusedTest::bare, RefusedTest::busy,
                RefusedTest::whole, RefusedTest::broken);
        for (Supplier<CrookedFrames> state : states) {
            badNumbers(state);
            takenNumbers(state);
            refused(state);
            questions(state);
        }
        wireTogether();
        whoAlike();
        badAheadOfFull();
        badAheadOfNone();
        badAheadOfAll();
        Due.close();
    }

    /** One frame, nobody, no turns. */
    private static CrookedFrames bare() {
        return Due.laid("f2,27;");
    }

    /** Something of everything, and a text with a fault. */
    private static CrookedFrames busy() {
        CrookedFrames x = new CrookedFrames();
        x.keep();
        x.turn(0, 3, 11);
        x.leave(0);
        x.seen(33, 20);
        x.seen(22, 22);
        Due.write(x, "f1,33;n0,0,3;f9");
        return x;
    }

    /** As many of everything as there can be, but for letters. */
    private static CrookedFrames whole() {
        CrookedFrames x = Due.laid(WHOLE);
        x.keep();
        for (int n = 0; n < 4; n++) {
            x.leave(n);
            x.turn(n, n, 30 + n);
            x.seen(20 + n, 20 + n);
            x.seen(20 - n, 20 - n);
        }
        x.keep();
        return x;
    }

    /** A text of 200 letters that cannot be laid. */
    private static CrookedFrames broken() {
        CrookedFrames x = new CrookedFrames();
        x.turn(30, 2, 40);
        Due.write(x, "f0,1;" + "c0,0;".repeat(38) + "c0,7:");
        return x;
    }

    private static void unchanged(String what, Supplier<CrookedFrames> state, CrookedFrames x) {
        Due.same("nothing changes by " + what, Watch.all(x), Watch.all(state.get()));
    }

    private static List<Calls.Row> callsOf(CrookedFrames x) {
        return Calls.all(x.count(0), x.count(1), x.count(3));
    }

    // BAD: a number is none that is told (FRAMES, PERSONS, TURNS: such as there are; DAYS 0 to 30).
    private static void badNumbers(Supplier<CrookedFrames> state) {
        for (Calls.Row row : callsOf(state.get())) {
            for (int[] n : row.wrong()) {
                CrookedFrames x = state.get();
                Due.is(row.with(n), row.ask(x, n), BAD);
                unchanged(row.with(n), state, x);
            }
        }
    }

    private static void takenNumbers(Supplier<CrookedFrames> state) {
        for (Calls.Row row : callsOf(state.get())) {
            for (int[] n : row.right()) {
                Due.is(row.with(n) + " is taken", row.ask(state.get(), n) == BAD ? BAD : 0, 0);
            }
        }
    }

    /** NO and FULL, wherever the state asks for them. */
    private static void refused(Supplier<CrookedFrames> state) {
        CrookedFrames y = state.get();
        refusedIf(y.count(7) == 200, "write", FULL, state, x -> x.write('f'));
        refusedIf(y.count(3) == 8, "turn", FULL, state, x -> x.turn(0, 0, 0));
        refusedIf(y.count(4) == 8, "seen", FULL, state, x -> x.seen(0, 0));
        refusedIf(y.count(6) == 2, "keep", FULL, state, CrookedFrames::keep);
        refusedIf(y.count(5) == 0, "undo", NO, state, CrookedFrames::undo);
        refusedIf(y.count(6) == 0, "back", NO, state, CrookedFrames::back);
        refusedIf(y.fault() != NONE || y.count(7) == 0, "lay", NO, state, CrookedFrames::lay);
    }

    private static void refusedIf(boolean is, String name, int want, Supplier<CrookedFrames> state,
            ToIntFunction<CrookedFrames> call) {
        CrookedFrames x = state.get();
        int got = call.applyAsInt(x);
        if (is) {
            Due.is(name + " is refused", got, want);
            Due.is(name + " is refused again", call.applyAsInt(x), want);
            unchanged(name, state, x);
        } else {
            Due.is(name + " is taken", Math.min(got, 0), 0);
        }
    }

    /** What only asks changes nothing, whatever it answers. */
    private static void questions(Supplier<CrookedFrames> state) {
        List<String> changing = List.of("write", "turn", "leave", "seen");
        for (Calls.Row row : callsOf(state.get())) {
            if (!changing.contains(row.name())) {
                CrookedFrames x = state.get();
                for (int[] n : row.right()) {
                    row.ask(x, n);
                }
                unchanged(row.name(), state, x);
            }
        }
        CrookedFrames x = state.get();
        x.fault();
        x.rest();
        x.sways();
        unchanged("fault, rest, sways", state, x);
    }

    // x and y together 10 at most
    private static void wireTogether() {
        CrookedFrames x = new CrookedFrames();
        for (int more = 0; more <= 11; more++) {
            for (int less = 0; less <= 11; less++) {
                boolean is = more + less <= 10;
                Due.is("wire, " + more + " and " + less, x.wire(20, 20, 0, more, less, 0), is ? 1 : BAD);
            }
        }
        int[][] far = {{Integer.MAX_VALUE, 1}, {1, Integer.MAX_VALUE}, {Integer.MIN_VALUE, Integer.MIN_VALUE},
            {-1, 11}, {11, -1}, {-1, 10}, {10, -1}, {Integer.MIN_VALUE, 10}, {12, -2},
            {Integer.MAX_VALUE, Integer.MAX_VALUE}, {Integer.MAX_VALUE, Integer.MIN_VALUE}};
        for (int[] n : far) {
            Due.is("wire, " + n[0] + " and " + n[1], x.wire(20, 20, 0, n[0], n[1], 0), BAD);
        }
    }

    // BAD (alike, too)
    private static void whoAlike() {
        CrookedFrames x = new CrookedFrames();
        for (int a = 0; a <= 40; a++) {
            Due.is("who(" + a + ", " + a + ")", x.who(a, a), BAD);
            int b = a == 40 ? 39 : a + 1;
            Due.is("who(" + a + ", " + b + ")", Math.min(0, x.who(a, b)), 0);
        }
        Due.is("who, alike and beyond", x.who(41, 41), BAD);
        Due.is("who, alike and beyond", x.who(-1, -1), BAD);
    }

    // Of several the first: BAD, then FULL.
    private static void badAheadOfFull() {
        CrookedFrames x = whole();
        Due.is("turn, full", x.turn(30, 6, 40), FULL);
        Due.is("turn, full, no night", x.turn(31, 0, 0), BAD);
        Due.is("turn, full, no frame", x.turn(0, 7, 0), BAD);
        Due.is("turn, full, no turn", x.turn(0, 0, 41), BAD);
        Due.is("seen, full", x.seen(40, 40), FULL);
        Due.is("seen, full, no a", x.seen(41, 0), BAD);
        Due.is("seen, full, no b", x.seen(0, -1), BAD);
        CrookedFrames y = broken();
        Due.is("write, full", y.write(126), FULL);
        Due.is("write, full, no letter", y.write(127), BAD);
        Due.is("write, full, no letter", y.write(31), BAD);
    }

    // Of several the first: BAD, then NONE.
    private static void badAheadOfNone() {
        CrookedFrames bare = bare();
        Due.is("most, nobody", bare.most(0), NONE);
        Due.is("most, nobody", bare.most(1), NONE);
        Due.is("most, nobody, wrong", bare.most(2), BAD);
        Due.is("most, nobody, wrong", bare.most(-1), BAD);
        bare.seen(20, 21);
        for (int kind = 0; kind < 4; kind++) {
            Due.is("look, no B", bare.look(kind, 0), NONE);
            Due.is("look, no B", bare.look(kind, 1), NONE);
            Due.is("look, no B, wrong", bare.look(kind, 2), BAD);
            Due.is("look, no B, wrong", bare.look(kind, -1), BAD);
        }
        Due.is("look, no B, no kind", bare.look(4, 0), BAD);
        // He never comes: whatever is asked of him there is none.
        CrookedFrames idle = Due.laid("f0,40;p0,0;");
        Due.is("sets", idle.sets(0, 30), NONE);
        Due.is("sets, no day", idle.sets(0, 31), BAD);
        Due.is("tempt", idle.tempt(0, 30), NONE);
        Due.is("tempt, no day", idle.tempt(0, 31), BAD);
        Due.is("fewest", idle.fewest(1, 30), NONE);
        Due.is("fewest, no day", idle.fewest(1, 31), BAD);
        Due.is("fewest, no set", idle.fewest(2, 0), BAD);
    }

    /** Nobody and no turns: every number of a person or of a turn is BAD, 0 too. */
    private static void badAheadOfAll() {
        CrookedFrames x = bare();
        Due.is("person", x.person(0, 0), BAD);
        Due.is("sets", x.sets(0, 0), BAD);
        Due.is("tempt", x.tempt(0, 0), BAD);
        Due.is("fewest", x.fewest(1, 0), BAD);
        Due.is("fewest of none", x.fewest(0, 0), 0);
        Due.is("ends", x.ends(0, 0, 0, 0), BAD);
        Due.is("told", x.told(0, 0), BAD);
        Due.is("leave", x.leave(0), BAD);
    }
}
