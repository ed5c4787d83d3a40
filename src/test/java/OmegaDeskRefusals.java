import java.util.ArrayList;
import java.util.List;
import java.util.function.ToIntFunction;

/**
 * Promise 10, for each way in which a call can be refused: on desks with no condition, some and
 * eight, with solutions and without, the call answers what is due, and all later calls answer as
 * they do on a desk on which it was not made.
 */
public final class OmegaDeskRefusals {
    private record Refused(String name, ToIntFunction<OmegaDesk> call, int answer) {
    }

    private record Start(String name, int[][] conditions, boolean solved) {
        /** A fifth number in a row, whatever it is, makes the condition one with =. */
        OmegaDesk desk() {
            OmegaDesk desk = new OmegaDesk();
            for (int[] row : conditions) {
                desk.add(row[0], row[1], row[2], row[3], row.length == 5);
            }
            return desk;
        }
    }

    private static final Start[] STARTS = {
        new Start("none held", new int[][] {}, true),
        new Start("one held", new int[][] {{3, 2, -2, 4}}, true),
        new Start("three held", new int[][] {{3, 2, -2, 4}, {1, -1, 0, 1, 1}, {0, 0, -1, 2}}, true),
        new Start("seven held", new int[][] {
            {2, 0, 0, 9}, {-1, 0, 0, 5}, {0, 1, 0, 4}, {0, -1, 0, 4}, {0, 0, 1, 3}, {1, 1, 1, 2, 1},
            {2, 1, 0, 7}}, true),
        new Start("eight held", new int[][] {
            {2, 0, 0, 9}, {-1, 0, 0, 5}, {0, 1, 0, 4}, {0, -1, 0, 4}, {0, 0, 1, 3}, {1, 1, 1, 2, 1},
            {2, 1, 0, 7}, {1, 0, -1, 4}}, true),
        new Start("two held without a solution", new int[][] {{0, 2, 0, 0}, {0, -2, 0, -1}}, false),
        new Start("eight held without a solution", new int[][] {
            {2, 0, 0, 9}, {-1, 0, 0, 5}, {0, 1, 0, 4}, {0, -1, 0, 4}, {0, 0, 1, 3}, {1, 1, 1, 2, 1},
            {2, 1, 0, 7}, {0, 0, 0, 9, 1}}, false)};

    /** Beside the neighbours of a range: numbers that would fall into it if cut to fewer bits. */
    private static final int[] FAR = {-65536, -256, 256, 65536, Integer.MIN_VALUE, Integer.MAX_VALUE};

    private static int wrong = 0;

    public static void main(String[] args) {
        for (Start start : STARTS) {
            List<Integer> untouched = laterAnswers(start.desk());
            List<Refused> all = refusedAt(start);
            for (Refused refused : all) {
                refuse(start, List.of(refused), untouched);
            }
            refuse(start, all, untouched);
        }
        System.out.println(wrong == 0 ? "all answers are as due" : wrong + " answers are not as due");
        if (wrong != 0) {
            System.exit(1);
        }
    }

    private static void refuse(Start start, List<Refused> calls, List<Integer> untouched) {
        OmegaDesk desk = start.desk();
        String name = calls.size() == 1 ? calls.get(0).name() : "all refused calls";
        for (Refused refused : calls) {
            int got = refused.call().applyAsInt(desk);
            if (got != refused.answer()) {
                wrong++;
                System.out.println(start.name() + ": " + refused.name() + " answered " + got
                    + ", due is " + refused.answer());
            }
        }
        List<Integer> later = laterAnswers(desk);
        if (!later.equals(untouched)) {
            wrong++;
            System.out.println(start.name() + ": after " + name + " later calls answered " + later
                + ", without it " + untouched);
        }
    }

    // What can be refused; 7 and -77 stand in no condition held, so they would show if kept

    private static List<Refused> refusedAt(Start start) {
        List<Refused> calls = new ArrayList<>();
        int held = start.conditions().length;
        for (int factor : outside(-9, 9)) {
            addRefusedFactor(calls, factor);
        }
        for (int right : outside(-99, 99)) {
            addRefusedRightSide(calls, right);
        }
        for (int number : outside(0, held - 1)) {
            calls.add(new Refused("drop(" + number + ")", desk -> desk.drop(number), -1));
        }
        for (int variable : outside(0, 2)) {
            addAsked(calls, variable);
        }
        if (held == 8) {
            calls.add(new Refused("add a ninth, <=", desk -> desk.add(7, 7, 7, -77, false), -1));
            calls.add(new Refused("add a ninth, =", desk -> desk.add(7, 7, 7, -77, true), -1));
        }
        if (!start.solved()) {
            for (int variable = 0; variable < 3; variable++) {
                addAsked(calls, variable);
            }
        }
        return calls;
    }

    private static int[] outside(int least, int greatest) {
        int[] numbers = new int[FAR.length + 2];
        numbers[0] = least - 1;
        numbers[1] = greatest + 1;
        System.arraycopy(FAR, 0, numbers, 2, FAR.length);
        return numbers;
    }

    private static void addRefusedFactor(List<Refused> calls, int bad) {
        for (boolean equal : new boolean[] {false, true}) {
            calls.add(new Refused("add with a = " + bad + ", equal " + equal,
                desk -> desk.add(bad, 7, 7, -77, equal), -1));
            calls.add(new Refused("add with b = " + bad + ", equal " + equal,
                desk -> desk.add(7, bad, 7, -77, equal), -1));
            calls.add(new Refused("add with c = " + bad + ", equal " + equal,
                desk -> desk.add(7, 7, bad, -77, equal), -1));
        }
        calls.add(new Refused("follows with a = " + bad, desk -> desk.follows(bad, 7, 7, -77), -1));
        calls.add(new Refused("follows with b = " + bad, desk -> desk.follows(7, bad, 7, -77), -1));
        calls.add(new Refused("follows with c = " + bad, desk -> desk.follows(7, 7, bad, -77), -1));
    }

    private static void addRefusedRightSide(List<Refused> calls, int bad) {
        calls.add(new Refused("add with d = " + bad + ", <=", desk -> desk.add(7, 7, 7, bad, false), -1));
        calls.add(new Refused("add with d = " + bad + ", =", desk -> desk.add(7, 7, 7, bad, true), -1));
        calls.add(new Refused("follows with d = " + bad, desk -> desk.follows(7, 7, 7, bad), -1));
    }

    private static void addAsked(List<Refused> calls, int variable) {
        calls.add(new Refused("first(" + variable + ")", desk -> desk.first(variable), 100));
        calls.add(new Refused("extreme(" + variable + ", false)", desk -> desk.extreme(variable, false), 100));
        calls.add(new Refused("extreme(" + variable + ", true)", desk -> desk.extreme(variable, true), 100));
        calls.add(new Refused("with(" + variable + ", 0)", desk -> desk.with(variable, 0), 0));
        calls.add(new Refused("with(" + variable + ", 6)", desk -> desk.with(variable, 6), 0));
    }

    // What later calls answer

    /** Asks, adds as far as there is room, and drops one by one, so that each condition shows. */
    private static List<Integer> laterAnswers(OmegaDesk desk) {
        List<Integer> answers = new ArrayList<>();
        ask(desk, answers);
        answers.add(desk.add(1, -1, 0, 3, false));
        ask(desk, answers);
        for (int again = 0; again < 8; again++) {
            answers.add(desk.drop(0));
            ask(desk, answers);
        }
        answers.add(desk.add(0, 1, 0, 2, true));
        ask(desk, answers);
        return answers;
    }

    private static void ask(OmegaDesk desk, List<Integer> answers) {
        answers.add(desk.possible());
        answers.add(desk.spare());
        for (int variable = 0; variable < 3; variable++) {
            answers.add(desk.first(variable));
            answers.add(desk.extreme(variable, false));
            answers.add(desk.extreme(variable, true));
            answers.add(desk.with(variable, 1));
        }
        answers.add(desk.follows(1, 1, 1, 2));
        answers.add(desk.follows(2, 1, 0, 7));
    }
}
