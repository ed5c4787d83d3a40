import java.util.function.ToIntFunction;

/**
 * "An object is used for at most 512 calls": in whatever way the first 511 are spent, each promise
 * still holds at the 512th.
 */
public final class OmegaDeskLastCall {
    private static final int CALLS = 512;

    /** What is due with no condition held, with EIGHT, and with seven of them and one never met. */
    private record Last(String name, ToIntFunction<OmegaDesk> call, int none, int eight, int unmet) {
    }

    private record Way(String name, ToIntFunction<OmegaDesk> use) {
    }

    private static final int[][] EIGHT = {
        {1, 0, 0, 5}, {-1, 0, 0, 5}, {0, 1, 0, 4}, {0, -1, 0, 4},
        {0, 0, 1, 3}, {0, 0, -1, 3}, {1, 1, 0, 7}, {0, 1, 1, 5}};

    private static final Last[] LAST = {
        new Last("add(1, 0, 0, 0, true)", desk -> desk.add(1, 0, 0, 0, true), 1, -1, -1),
        new Last("add(0, 0, 0, 99, false)", desk -> desk.add(0, 0, 0, 99, false), 1, -1, -1),
        new Last("add(10, 0, 0, 0, true)", desk -> desk.add(10, 0, 0, 0, true), -1, -1, -1),
        new Last("add(0, 0, 0, -100, true)", desk -> desk.add(0, 0, 0, -100, true), -1, -1, -1),
        new Last("drop(-1)", desk -> desk.drop(-1), -1, -1, -1),
        new Last("drop(0)", desk -> desk.drop(0), -1, 7, 7),
        new Last("drop(7)", desk -> desk.drop(7), -1, 7, 7),
        new Last("drop(8)", desk -> desk.drop(8), -1, -1, -1),
        new Last("possible()", OmegaDesk::possible, 1, 1, 0),
        new Last("first(0)", desk -> desk.first(0), -6, -5, 100),
        new Last("first(1)", desk -> desk.first(1), -6, -4, 100),
        new Last("first(2)", desk -> desk.first(2), -6, -3, 100),
        new Last("first(3)", desk -> desk.first(3), 100, 100, 100),
        new Last("extreme(0, true)", desk -> desk.extreme(0, true), 6, 5, 100),
        new Last("extreme(0, false)", desk -> desk.extreme(0, false), -6, -5, 100),
        new Last("extreme(1, true)", desk -> desk.extreme(1, true), 6, 4, 100),
        new Last("extreme(1, false)", desk -> desk.extreme(1, false), -6, -4, 100),
        new Last("extreme(2, true)", desk -> desk.extreme(2, true), 6, 3, 100),
        new Last("extreme(2, false)", desk -> desk.extreme(2, false), -6, -3, 100),
        new Last("extreme(-1, true)", desk -> desk.extreme(-1, true), 100, 100, 100),
        new Last("with(0, 6)", desk -> desk.with(0, 6), 1, 0, 0),
        new Last("with(1, -4)", desk -> desk.with(1, -4), 1, 1, 0),
        new Last("with(2, 7)", desk -> desk.with(2, 7), 0, 0, 0),
        new Last("with(3, 0)", desk -> desk.with(3, 0), 0, 0, 0),
        new Last("follows(1, 1, 0, 7)", desk -> desk.follows(1, 1, 0, 7), 0, 1, 1),
        new Last("follows(0, 1, 1, 5)", desk -> desk.follows(0, 1, 1, 5), 0, 1, 1),
        new Last("follows(0, 0, 0, -1)", desk -> desk.follows(0, 0, 0, -1), 0, 0, 1),
        new Last("follows(0, 0, 10, 0)", desk -> desk.follows(0, 0, 10, 0), -1, -1, -1),
        new Last("spare()", OmegaDesk::spare, 0, 0, 7)};

    private static int wrong = 0;

    private static void due(String call, int got, int want) {
        if (got != want) {
            wrong++;
            System.out.println(call + " answered " + got + ", due is " + want);
        }
    }

    public static void main(String[] args) {
        Way[] toNone = {
            new Way("adding and dropping", OmegaDeskLastCall::addAndDrop),
            new Way("filling and emptying", OmegaDeskLastCall::fillAndEmpty),
            new Way("each question", desk -> askAll(desk, 0))};
        for (Way way : toNone) {
            lastCalls(way, 0);
        }
        Way[] toEight = {
            new Way("adding when full", OmegaDeskLastCall::addWhenFull),
            new Way("going round", OmegaDeskLastCall::goRound),
            new Way("refused calls before all others", OmegaDeskLastCall::refusedThenEight),
            new Way("each question of eight", OmegaDeskLastCall::askOfEight)};
        for (Way way : toEight) {
            lastCalls(way, 1);
        }
        lastCalls(new Way("one added last that is never met", OmegaDeskLastCall::unmetAtLast), 2);
        theSameQuestionAlways();
        System.out.println(wrong == 0 ? "all answers are as due" : wrong + " answers are not as due");
        if (wrong != 0) {
            System.exit(1);
        }
    }

    private static int dueAt(Last last, int state) {
        return state == 0 ? last.none() : state == 1 ? last.eight() : last.unmet();
    }

    private static void lastCalls(Way way, int state) {
        for (Last last : LAST) {
            OmegaDesk desk = new OmegaDesk();
            int used = way.use().applyAsInt(desk);
            due(way.name() + ": how many calls were made", used, CALLS - 1);
            due(way.name() + ", then " + last.name() + " as the last", last.call().applyAsInt(desk),
                dueAt(last, state));
        }
    }

    /** A call that changes nothing at a new desk, 512 times. */
    private static void theSameQuestionAlways() {
        for (Last last : LAST) {
            boolean changes = last.none() == 1 && last.name().startsWith("add");
            OmegaDesk desk = new OmegaDesk();
            for (int call = 1; call <= CALLS && !changes; call++) {
                due(last.name() + " as call " + call, last.call().applyAsInt(desk), last.none());
            }
        }
    }

    // Ways to spend 511 calls; each answers how many it made

    private static int addFrom(OmegaDesk desk, int number, int want) {
        int[] row = EIGHT[number];
        due("add of number " + number, desk.add(row[0], row[1], row[2], row[3], false), want);
        return 1;
    }

    private static int addEight(OmegaDesk desk) {
        int used = 0;
        for (int number = 0; number < 8; number++) {
            used += addFrom(desk, number, number + 1);
        }
        return used;
    }

    private static int addAndDrop(OmegaDesk desk) {
        int used = 1;
        due("possible() at the start", desk.possible(), 1);
        while (used < CALLS - 1) {
            due("add at call " + used, desk.add(0, 0, 0, -99, true), 1);
            due("drop(0) after call " + used, desk.drop(0), 0);
            used += 2;
        }
        return used;
    }

    private static int fillAndEmpty(OmegaDesk desk) {
        int used = 0;
        while (used + 16 < CALLS) {
            used += addEight(desk);
            for (int number = 7; number >= 0; number--) {
                due("drop(" + number + ") after call " + used, desk.drop(number), number);
                used++;
            }
        }
        while (used < CALLS - 1) {
            due("spare() after call " + used, desk.spare(), 0);
            used++;
        }
        return used;
    }

    /** In turn all calls that change nothing with that many conditions held. */
    private static int askAll(OmegaDesk desk, int state) {
        int used = state == 0 ? 0 : addEight(desk);
        for (int turn = 0; used < CALLS - 1; turn++) {
            Last last = LAST[turn % LAST.length];
            boolean changes = last.name().startsWith("add") || last.name().startsWith("drop");
            int want = dueAt(last, state);
            if (!changes || want == -1) {
                due(last.name() + " after call " + used, last.call().applyAsInt(desk), want);
                used++;
            }
        }
        return used;
    }

    private static int askOfEight(OmegaDesk desk) {
        return askAll(desk, 1);
    }

    private static int addWhenFull(OmegaDesk desk) {
        int used = addEight(desk);
        while (used < CALLS - 1) {
            due("add of a ninth after call " + used, desk.add(0, 0, 0, -1, used % 2 == 0), -1);
            used++;
        }
        return used;
    }

    private static int goRound(OmegaDesk desk) {
        int used = addEight(desk);
        due("possible() of eight", desk.possible(), 1);
        used++;
        for (int turn = 0; used < CALLS - 1; turn++) {
            due("drop(0) after call " + used, desk.drop(0), 7);
            used += 1 + addFrom(desk, turn % 8, 8);
        }
        return used;
    }

    private static int refusedThenEight(OmegaDesk desk) {
        int used = 0;
        while (used < CALLS - 9) {
            int answer = used % 2 == 0 ? desk.drop(0) : desk.add(0, -10, 0, 0, false);
            due("a refused call after call " + used, answer, -1);
            used++;
        }
        return used + addEight(desk);
    }

    private static int unmetAtLast(OmegaDesk desk) {
        int used = addEight(desk);
        while (used < CALLS - 3) {
            due("possible() after call " + used, desk.possible(), 1);
            used++;
        }
        due("drop(5)", desk.drop(5), 7);
        due("add of one never met", desk.add(0, 0, 0, -1, false), 8);
        return used + 2;
    }
}
