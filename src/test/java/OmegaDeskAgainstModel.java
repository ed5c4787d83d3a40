import java.util.ArrayList;
import java.util.List;

/**
 * Long runs of calls, always the same ones, compared with a model that keeps lists of conditions
 * and of whole solution rows and reads every answer off them.
 */
public final class OmegaDeskAgainstModel {
    private static final int RUNS = 120;
    private static final int CALLS = 512;

    private record Condition(int a, int b, int c, int d, boolean equal) {
        boolean metBy(int[] row) {
            int left = a * row[0] + b * row[1] + c * row[2];
            return equal ? left == d : left <= d;
        }
    }

    private static final class Model {
        private final List<Condition> conditions = new ArrayList<>();

        private static List<int[]> solutions(List<Condition> all) {
            List<int[]> rows = new ArrayList<>();
            for (int x = -6; x <= 6; x++) {
                for (int y = -6; y <= 6; y++) {
                    for (int z = -6; z <= 6; z++) {
                        int[] row = {x, y, z};
                        if (all.stream().allMatch(condition -> condition.metBy(row))) {
                            rows.add(row);
                        }
                    }
                }
            }
            return rows;
        }

        private static boolean inRange(int a, int b, int c, int d) {
            return Math.max(Math.abs((long) a), Math.max(Math.abs((long) b), Math.abs((long) c))) <= 9
                && Math.abs((long) d) <= 99;
        }

        int add(int a, int b, int c, int d, boolean equal) {
            if (!inRange(a, b, c, d) || conditions.size() == 8) {
                return -1;
            }
            conditions.add(new Condition(a, b, c, d, equal));
            return conditions.size();
        }

        int drop(int number) {
            if (number < 0 || number >= conditions.size()) {
                return -1;
            }
            conditions.remove(number);
            return conditions.size();
        }

        int possible() {
            return solutions(conditions).isEmpty() ? 0 : 1;
        }

        int first(int place) {
            List<int[]> rows = solutions(conditions);
            return rows.isEmpty() || place < 0 || place > 2 ? 100 : rows.get(0)[place];
        }

        int extreme(int variable, boolean greatest) {
            List<int[]> rows = solutions(conditions);
            if (rows.isEmpty() || variable < 0 || variable > 2) {
                return 100;
            }
            return greatest
                ? rows.stream().mapToInt(row -> row[variable]).max().getAsInt()
                : rows.stream().mapToInt(row -> row[variable]).min().getAsInt();
        }

        int with(int variable, int value) {
            if (variable < 0 || variable > 2) {
                return 0;
            }
            return solutions(conditions).stream().anyMatch(row -> row[variable] == value) ? 1 : 0;
        }

        int follows(int a, int b, int c, int d) {
            if (!inRange(a, b, c, d)) {
                return -1;
            }
            Condition asked = new Condition(a, b, c, d, false);
            return solutions(conditions).stream().allMatch(asked::metBy) ? 1 : 0;
        }

        int spare() {
            int found = 0;
            for (int number = 0; number < conditions.size(); number++) {
                List<Condition> others = new ArrayList<>(conditions);
                Condition taken = others.remove(number);
                if (solutions(others).stream().allMatch(taken::metBy)) {
                    found++;
                }
            }
            return found;
        }
    }

    private static int wrong = 0;
    private static long state = 20261115L;

    /** The same numbers each time: a test that fails can be run again. */
    private static int pick(int least, int greatest) {
        state = state * 6364136223846793005L + 1442695040888963407L;
        return least + (int) ((state >>> 33) % (greatest - least + 1));
    }

    private static int pickFactor(int bound) {
        return pick(0, 59) == 0 ? pick(-12, 12) : pick(-bound, bound);
    }

    private static int pickRightSide(int bound) {
        return pick(0, 59) == 0 ? pick(-102, 102) : pick(-bound, bound);
    }

    private static void due(int run, String call, int got, int want) {
        if (got != want) {
            wrong++;
            if (wrong <= 20) {
                System.out.println("run " + run + ": " + call + " answered " + got + ", due is " + want);
            }
        }
    }

    public static void main(String[] args) {
        for (int run = 0; run < RUNS; run++) {
            compare(run);
        }
        System.out.println(wrong == 0 ? "all answers are as due" : wrong + " answers are not as due");
        if (wrong != 0) {
            System.exit(1);
        }
    }

    private static void compare(int run) {
        OmegaDesk desk = new OmegaDesk();
        Model model = new Model();
        // Small factors make near and doubled conditions, large ones few and scattered solutions.
        int factorBound = run % 3 == 0 ? 9 : run % 3;
        int rightBound = run % 3 == 0 ? 99 : 8 * (run % 3);
        // Runs differ in how full the desk gets, since a full desk seldom has a solution.
        int fill = 1 + run % 8;
        for (int call = 0; call < CALLS; call++) {
            if (pick(0, 3) == 0) {
                change(run, desk, model, factorBound, rightBound, fill);
            } else {
                ask(run, desk, model, factorBound, rightBound);
            }
        }
    }

    private static void change(int run, OmegaDesk desk, Model model, int factorBound, int rightBound, int fill) {
        boolean adds = model.conditions.size() < fill ? pick(0, 3) != 0 : pick(0, 7) == 0;
        if (adds) {
            int a = pickFactor(factorBound);
            int b = pickFactor(factorBound);
            int c = pickFactor(factorBound);
            int d = pickRightSide(rightBound);
            boolean equal = pick(0, 3) == 0;
            due(run, "add(" + a + ", " + b + ", " + c + ", " + d + ", " + equal + ")",
                desk.add(a, b, c, d, equal), model.add(a, b, c, d, equal));
        } else {
            int number = pick(-1, model.conditions.size());
            due(run, "drop(" + number + ")", desk.drop(number), model.drop(number));
        }
    }

    private static void ask(int run, OmegaDesk desk, Model model, int factorBound, int rightBound) {
        int variable = pick(0, 19) == 0 ? pick(-2, 4) : pick(0, 2);
        switch (pick(0, 5)) {
            case 0 -> due(run, "possible()", desk.possible(), model.possible());
            case 1 -> due(run, "first(" + variable + ")", desk.first(variable), model.first(variable));
            case 2 -> {
                boolean greatest = pick(0, 1) == 1;
                due(run, "extreme(" + variable + ", " + greatest + ")",
                    desk.extreme(variable, greatest), model.extreme(variable, greatest));
            }
            case 3 -> {
                int value = pick(-7, 7);
                due(run, "with(" + variable + ", " + value + ")",
                    desk.with(variable, value), model.with(variable, value));
            }
            case 4 -> {
                int a = pickFactor(factorBound);
                int b = pickFactor(factorBound);
                int c = pickFactor(factorBound);
                int d = pickRightSide(rightBound);
                due(run, "follows(" + a + ", " + b + ", " + c + ", " + d + ")",
                    desk.follows(a, b, c, d), model.follows(a, b, c, d));
            }
            default -> due(run, "spare()", desk.spare(), model.spare());
        }
    }
}
