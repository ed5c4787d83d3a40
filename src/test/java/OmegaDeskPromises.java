/** Each promise by itself: ordinary inputs, the edges the document names, and wrong inputs. */
public final class OmegaDeskPromises {
    private static final int[] WRONG_PLACES = {-1, 3, 100, Integer.MIN_VALUE, Integer.MAX_VALUE};
    private static final int[] WRONG_FACTORS = {-10, 10, Integer.MIN_VALUE, Integer.MAX_VALUE};
    private static final int[] WRONG_RIGHT_SIDES = {-100, 100, Integer.MIN_VALUE, Integer.MAX_VALUE};

    private static int wrong = 0;

    private static void due(String call, int got, int want) {
        if (got != want) {
            wrong++;
            System.out.println(call + " answered " + got + ", due is " + want);
        }
    }

    private static void dueFirst(String when, OmegaDesk desk, int x, int y, int z) {
        due(when + ": first(0)", desk.first(0), x);
        due(when + ": first(1)", desk.first(1), y);
        due(when + ": first(2)", desk.first(2), z);
    }

    private static void dueExtremes(String when, OmegaDesk desk, int variable, int least, int greatest) {
        due(when + ": extreme(" + variable + ", false)", desk.extreme(variable, false), least);
        due(when + ": extreme(" + variable + ", true)", desk.extreme(variable, true), greatest);
    }

    public static void main(String[] args) {
        newObject();
        addCountsAndHolds();
        addAtTheEdges();
        addRefuses();
        addAtTheLimit();
        dropMovesBack();
        dropRefuses();
        possible();
        firstInOrder();
        extremes();
        with();
        follows();
        followsAtTheEdges();
        spareCounts();
        spareWithoutSolutions();
        refusedCallsChangeNothing();
        questionsChangeNothing();
        objectsAreApart();
        System.out.println(wrong == 0 ? "all answers are as due" : wrong + " answers are not as due");
        if (wrong != 0) {
            System.exit(1);
        }
    }

    // Promise 1

    private static void newObject() {
        OmegaDesk desk = new OmegaDesk();
        due("new: drop(0)", desk.drop(0), -1);
        due("new: spare()", desk.spare(), 0);
        due("new: possible()", desk.possible(), 1);
        dueFirst("new", desk, -6, -6, -6);
        for (int variable = 0; variable < 3; variable++) {
            dueExtremes("new", desk, variable, -6, 6);
        }
        due("new: add", desk.add(0, 0, 0, 0, false), 1);
    }

    // Promise 2

    private static void addCountsAndHolds() {
        OmegaDesk desk = new OmegaDesk();
        due("add: x <= 2", desk.add(1, 0, 0, 2, false), 1);
        dueExtremes("x <= 2", desk, 0, -6, 2);
        due("add: y = -3", desk.add(0, 1, 0, -3, true), 2);
        dueExtremes("y = -3", desk, 1, -3, -3);
        due("add: -z <= -4", desk.add(0, 0, -1, -4, false), 3);
        dueExtremes("-z <= -4", desk, 2, 4, 6);
        dueFirst("three conditions", desk, -6, -3, 4);
    }

    private static void addAtTheEdges() {
        OmegaDesk desk = new OmegaDesk();
        due("add(9, 9, 9, 99, false)", desk.add(9, 9, 9, 99, false), 1);
        due("9x + 9y + 9z <= 99 takes (6, 5, 0)", holdsAt(desk, 6, 5, 0), 1);
        due("9x + 9y + 9z <= 99 leaves out (6, 6, 0)", holdsAt(desk, 6, 6, 0), 0);
        desk = new OmegaDesk();
        due("add(-9, -9, -9, -99, true)", desk.add(-9, -9, -9, -99, true), 1);
        due("-9x - 9y - 9z = -99 takes (5, 6, 0)", holdsAt(desk, 5, 6, 0), 1);
        due("-9x - 9y - 9z = -99 leaves out (5, 6, 1)", holdsAt(desk, 5, 6, 1), 0);
        due("-9x - 9y - 9z = -99 leaves out (5, 6, -1)", holdsAt(desk, 5, 6, -1), 0);
        desk = new OmegaDesk();
        due("add(0, 0, 0, 0, true)", desk.add(0, 0, 0, 0, true), 1);
        due("add(0, 0, 0, 99, true)", desk.add(0, 0, 0, 99, true), 2);
        due("add(0, 0, 0, -99, false)", desk.add(0, 0, 0, -99, false), 3);
    }

    /** Pins the row by three conditions more, so the desk has to have room for them. */
    private static int holdsAt(OmegaDesk desk, int x, int y, int z) {
        int number = desk.add(1, 0, 0, x, true) - 1;
        desk.add(0, 1, 0, y, true);
        desk.add(0, 0, 1, z, true);
        int answer = desk.possible();
        desk.drop(number);
        desk.drop(number);
        desk.drop(number);
        return answer;
    }

    private static void addRefuses() {
        OmegaDesk desk = new OmegaDesk();
        due("add: x = 1", desk.add(1, 0, 0, 1, true), 1);
        for (int factor : WRONG_FACTORS) {
            due("add with a = " + factor, desk.add(factor, 0, 0, 0, true), -1);
            due("add with b = " + factor, desk.add(0, factor, 0, 0, false), -1);
            due("add with c = " + factor, desk.add(0, 0, factor, 0, true), -1);
        }
        for (int right : WRONG_RIGHT_SIDES) {
            due("add with d = " + right, desk.add(0, 0, 0, right, true), -1);
            due("add with d = " + right, desk.add(0, 0, 0, right, false), -1);
        }
        dueFirst("after refused ones", desk, 1, -6, -6);
        due("add after refused ones", desk.add(0, 1, 0, 2, true), 2);
        dueFirst("after refused ones and one more", desk, 1, 2, -6);
    }

    private static void addAtTheLimit() {
        OmegaDesk desk = new OmegaDesk();
        for (int number = 1; number <= 8; number++) {
            due("add number " + number, desk.add(1, 0, 0, 6 - number, false), number);
        }
        dueExtremes("eight conditions", desk, 0, -6, -2);
        due("add a ninth", desk.add(0, 0, 0, -1, false), -1);
        due("add a ninth again", desk.add(1, 0, 0, -6, true), -1);
        dueExtremes("the ninth refused", desk, 0, -6, -2);
        due("drop the eighth", desk.drop(7), 7);
        dueExtremes("the eighth dropped", desk, 0, -6, -1);
        due("add another eighth", desk.add(1, 0, 0, -5, true), 8);
        dueExtremes("another eighth", desk, 0, -5, -5);
    }

    // Promise 3

    private static void dropMovesBack() {
        OmegaDesk desk = new OmegaDesk();
        desk.add(1, 0, 0, 1, true);
        desk.add(0, 1, 0, 2, true);
        desk.add(0, 0, 1, 3, false);
        desk.add(0, 0, -1, -3, false);
        dueFirst("before drop", desk, 1, 2, 3);
        due("drop(1)", desk.drop(1), 3);
        dueFirst("y free", desk, 1, -6, 3);
        due("drop(1) takes z <= 3, moved back", desk.drop(1), 2);
        dueExtremes("z >= 3", desk, 2, 3, 6);
        due("drop(0)", desk.drop(0), 1);
        dueFirst("z >= 3 alone", desk, -6, -6, 3);
        due("drop(1) of one", desk.drop(1), -1);
        due("add behind what moved", desk.add(1, 1, 1, 0, true), 2);
        due("drop(0) of two", desk.drop(0), 1);
        dueFirst("x + y + z = 0", desk, -6, 0, 6);
        due("drop(0) of one", desk.drop(0), 0);
        dueFirst("none left", desk, -6, -6, -6);
        dropOfEach();
    }

    /** Of eight conditions that all count, each one dropped frees what it alone held. */
    private static void dropOfEach() {
        for (int number = 0; number < 8; number++) {
            OmegaDesk desk = new OmegaDesk();
            for (int condition = 0; condition < 8; condition++) {
                desk.add(0, 0, 0, condition == number ? -1 : condition, false);
            }
            due("one of eight can't be met", desk.possible(), 0);
            due("drop(" + number + ") of eight", desk.drop(number), 7);
            due("drop(" + number + ") then possible()", desk.possible(), 1);
            due("drop(7) of seven", desk.drop(7), -1);
        }
    }

    private static void dropRefuses() {
        OmegaDesk desk = new OmegaDesk();
        desk.add(1, 0, 0, 4, true);
        desk.add(0, 1, 0, 5, true);
        for (int number : new int[] {-1, 2, 3, 7, 8, 9, Integer.MIN_VALUE, Integer.MAX_VALUE}) {
            due("drop(" + number + ") of two", desk.drop(number), -1);
        }
        dueFirst("after refused drops", desk, 4, 5, -6);
        due("add after refused drops", desk.add(0, 0, 1, 6, true), 3);
        dueFirst("after refused drops and one more", desk, 4, 5, 6);
    }

    // Promise 4

    private static void possible() {
        OmegaDesk desk = new OmegaDesk();
        desk.add(1, 1, 1, 18, true);
        due("x + y + z = 18: possible()", desk.possible(), 1);
        desk.drop(0);
        desk.add(1, 1, 1, 19, true);
        due("x + y + z = 19: possible()", desk.possible(), 0);
        desk.drop(0);
        desk.add(1, 1, 1, -18, false);
        due("x + y + z <= -18: possible()", desk.possible(), 1);
        desk.drop(0);
        desk.add(1, 1, 1, -19, false);
        due("x + y + z <= -19: possible()", desk.possible(), 0);
        desk.drop(0);
        desk.add(2, 4, 6, 7, true);
        due("2x + 4y + 6z = 7 has no whole solution", desk.possible(), 0);
        desk.drop(0);
        desk.add(1, 0, 0, 1, false);
        desk.add(-1, 0, 0, -2, false);
        due("x <= 1 and x >= 2: possible()", desk.possible(), 0);
        desk.drop(0);
        due("x >= 2: possible()", desk.possible(), 1);
    }

    // Promise 5

    private static void firstInOrder() {
        OmegaDesk desk = new OmegaDesk();
        desk.add(1, 1, 1, 0, true);
        dueFirst("least x before least y", desk, -6, 0, 6);
        desk.drop(0);
        desk.add(0, 1, 1, 0, true);
        dueFirst("least y before least z", desk, -6, -6, 6);
        desk.drop(0);
        desk.add(-1, -1, -1, -18, false);
        dueFirst("the last row alone", desk, 6, 6, 6);
        for (int place : WRONG_PLACES) {
            due("first(" + place + ")", desk.first(place), 100);
        }
        desk.add(0, 0, 0, -1, false);
        dueFirst("no solution", desk, 100, 100, 100);
        for (int place : WRONG_PLACES) {
            due("no solution: first(" + place + ")", desk.first(place), 100);
        }
    }

    // Promise 6

    private static void extremes() {
        OmegaDesk desk = new OmegaDesk();
        desk.add(1, 1, 0, -2, false);
        desk.add(0, -1, 1, 0, true);
        desk.add(0, 0, -1, 1, false);
        dueExtremes("x + y <= -2, y = z, z >= -1", desk, 0, -6, -1);
        dueExtremes("x + y <= -2, y = z, z >= -1", desk, 1, -1, 4);
        dueExtremes("x + y <= -2, y = z, z >= -1", desk, 2, -1, 4);
        for (int variable : WRONG_PLACES) {
            dueExtremes("wrong variable", desk, variable, 100, 100);
        }
        desk.add(0, 0, 0, 1, true);
        for (int variable = 0; variable < 3; variable++) {
            dueExtremes("no solution", desk, variable, 100, 100);
        }
        desk = new OmegaDesk();
        desk.add(3, 0, -5, 0, true);
        dueExtremes("3x = 5z", desk, 0, -5, 5);
        dueExtremes("3x = 5z", desk, 1, -6, 6);
        dueExtremes("3x = 5z", desk, 2, -3, 3);
    }

    // Promise 7

    private static void with() {
        OmegaDesk desk = new OmegaDesk();
        for (int variable = 0; variable < 3; variable++) {
            for (int value = -8; value <= 8; value++) {
                due("new: with(" + variable + ", " + value + ")",
                    desk.with(variable, value), value >= -6 && value <= 6 ? 1 : 0);
            }
            due("with a huge value", desk.with(variable, Integer.MAX_VALUE), 0);
            due("with a tiny value", desk.with(variable, Integer.MIN_VALUE), 0);
            due("with 100", desk.with(variable, 100), 0);
        }
        for (int variable : WRONG_PLACES) {
            due("with(" + variable + ", 0)", desk.with(variable, 0), 0);
            due("with(" + variable + ", 100)", desk.with(variable, 100), 0);
        }
        desk.add(3, 0, -5, 0, true);
        due("3x = 5z: with(0, 5)", desk.with(0, 5), 1);
        due("3x = 5z: with(0, 0)", desk.with(0, 0), 1);
        due("3x = 5z: with(0, 3), between the extremes", desk.with(0, 3), 0);
        due("3x = 5z: with(2, -3)", desk.with(2, -3), 1);
        due("3x = 5z: with(2, -2)", desk.with(2, -2), 0);
        due("3x = 5z: with(1, 3)", desk.with(1, 3), 1);
        desk.add(0, 0, 0, -1, true);
        due("no solution: with(0, 0)", desk.with(0, 0), 0);
    }

    // Promise 8

    private static void follows() {
        OmegaDesk desk = new OmegaDesk();
        due("new: x <= 6", desk.follows(1, 0, 0, 6), 1);
        due("new: x <= 5", desk.follows(1, 0, 0, 5), 0);
        due("new: x - y + z <= 18", desk.follows(1, -1, 1, 18), 1);
        due("new: x - y + z <= 17", desk.follows(1, -1, 1, 17), 0);
        due("new: 0 <= 0", desk.follows(0, 0, 0, 0), 1);
        due("new: 0 <= -1", desk.follows(0, 0, 0, -1), 0);
        desk.add(2, 2, 0, 5, false);
        due("2x + 2y <= 5: x + y <= 2, for whole numbers", desk.follows(1, 1, 0, 2), 1);
        due("2x + 2y <= 5: x + y <= 1", desk.follows(1, 1, 0, 1), 0);
        desk.add(0, 1, -2, 1, true);
        due("y = 2z + 1: y <= 5", desk.follows(0, 1, 0, 5), 1);
        due("y = 2z + 1: y <= 4", desk.follows(0, 1, 0, 4), 0);
        due("y = 2z + 1: -z <= 3", desk.follows(0, 0, -1, 3), 1);
        due("y = 2z + 1: -z <= 2", desk.follows(0, 0, -1, 2), 0);
        desk.add(0, 0, 0, -1, false);
        due("no solution: 0 <= -99", desk.follows(0, 0, 0, -99), 1);
        due("no solution: 9x <= -99", desk.follows(9, 0, 0, -99), 1);
    }

    private static void followsAtTheEdges() {
        OmegaDesk desk = new OmegaDesk();
        due("follows(9, 9, 9, 99)", desk.follows(9, 9, 9, 99), 0);
        due("follows(-9, -9, -9, -99)", desk.follows(-9, -9, -9, -99), 0);
        due("follows(9, -7, 0, 99)", desk.follows(9, -7, 0, 99), 1);
        due("follows(-9, 0, 7, 99)", desk.follows(-9, 0, 7, 99), 1);
        due("follows(0, 7, -9, 99)", desk.follows(0, 7, -9, 99), 1);
        due("follows(0, -9, 8, 99)", desk.follows(0, -9, 8, 99), 0);
        dueFollowsRefused(desk);
        desk.add(0, 0, 0, -1, false);
        dueFollowsRefused(desk);
    }

    private static void dueFollowsRefused(OmegaDesk desk) {
        for (int factor : WRONG_FACTORS) {
            due("follows with a = " + factor, desk.follows(factor, 0, 0, 0), -1);
            due("follows with b = " + factor, desk.follows(0, factor, 0, 0), -1);
            due("follows with c = " + factor, desk.follows(0, 0, factor, 0), -1);
        }
        for (int right : WRONG_RIGHT_SIDES) {
            due("follows with d = " + right, desk.follows(0, 0, 0, right), -1);
        }
    }

    // Promise 9

    private static void spareCounts() {
        OmegaDesk desk = new OmegaDesk();
        desk.add(1, 0, 0, 3, false);
        due("x <= 3: spare()", desk.spare(), 0);
        desk.add(1, 0, 0, 4, false);
        due("and x <= 4: spare()", desk.spare(), 1);
        desk.add(1, 0, 0, 3, false);
        due("and x <= 3 again: each of the three follows", desk.spare(), 3);
        desk.add(0, 1, 0, 6, false);
        due("and y <= 6, which always holds: spare()", desk.spare(), 4);
        desk.add(1, 0, 0, 2, true);
        due("and x = 2: the others follow, it doesn't", desk.spare(), 4);
        desk = new OmegaDesk();
        desk.add(1, 0, 0, 2, false);
        desk.add(-1, 0, 0, -2, false);
        due("x <= 2 and x >= 2: spare()", desk.spare(), 0);
        desk.add(1, 0, 0, 2, true);
        due("and x = 2: all three follow", desk.spare(), 3);
        desk.drop(1);
        due("x <= 2 and x = 2: the equality doesn't follow", desk.spare(), 1);
        desk = new OmegaDesk();
        for (int number = 0; number < 8; number++) {
            desk.add(0, 0, 0, number, false);
        }
        due("eight that always hold: spare()", desk.spare(), 8);
    }

    private static void spareWithoutSolutions() {
        OmegaDesk desk = new OmegaDesk();
        desk.add(0, 0, 0, -1, false);
        due("one that can't be met: spare()", desk.spare(), 0);
        desk.add(1, 0, 0, 0, true);
        due("and x = 0, which follows from nothing solved: spare()", desk.spare(), 1);
        desk.add(0, 0, 0, 1, true);
        due("two that can't be met and x = 0: spare()", desk.spare(), 3);
    }

    // Promise 10

    private static void refusedCallsChangeNothing() {
        OmegaDesk desk = new OmegaDesk();
        desk.add(1, 2, 3, 4, false);
        desk.add(1, -1, 0, 0, true);
        String before = answersOf(desk);
        for (int bad : new int[] {-100, 100, Integer.MIN_VALUE, Integer.MAX_VALUE}) {
            desk.add(bad, 0, 0, 0, true);
            desk.add(0, bad, 0, 0, true);
            desk.add(0, 0, bad, 0, true);
            desk.add(1, 1, 1, bad, true);
            desk.drop(bad);
            desk.first(bad);
            desk.extreme(bad, true);
            desk.with(bad, bad);
            desk.follows(bad, bad, bad, bad);
        }
        dueSame("after refused calls", before, answersOf(desk));
        due("the number of conditions is kept", desk.add(0, 0, 1, 0, true), 3);
        for (int held = 4; held <= 8; held++) {
            desk.add(0, 0, 0, held, false);
        }
        before = answersOf(desk);
        due("add at the limit", desk.add(0, 0, 0, -1, true), -1);
        due("drop(8) at the limit", desk.drop(8), -1);
        dueSame("after refused calls at the limit", before, answersOf(desk));
    }

    private static void questionsChangeNothing() {
        OmegaDesk desk = new OmegaDesk();
        desk.add(1, 2, 3, 4, true);
        desk.add(-2, 5, 0, 7, false);
        desk.add(1, 2, 3, 9, false);
        String before = answersOf(desk);
        dueSame("asked again", before, answersOf(desk));
        due("drop after questions", desk.drop(2), 2);
    }

    private static void objectsAreApart() {
        OmegaDesk one = new OmegaDesk();
        OmegaDesk other = new OmegaDesk();
        one.add(1, 0, 0, 5, true);
        due("the other object: add", other.add(0, 1, 0, 5, true), 1);
        dueFirst("the one object", one, 5, -6, -6);
        dueFirst("the other object", other, -6, 5, -6);
    }

    private static String answersOf(OmegaDesk desk) {
        StringBuilder answers = new StringBuilder();
        answers.append(desk.possible()).append(' ').append(desk.spare());
        for (int variable = 0; variable < 3; variable++) {
            answers.append(' ').append(desk.first(variable));
            answers.append(' ').append(desk.extreme(variable, false));
            answers.append(' ').append(desk.extreme(variable, true));
            for (int value = -6; value <= 6; value++) {
                answers.append(' ').append(desk.with(variable, value));
            }
        }
        for (int right = -9; right <= 9; right += 3) {
            answers.append(' ').append(desk.follows(1, 1, 1, right));
        }
        return answers.toString();
    }

    private static void dueSame(String when, String before, String after) {
        if (!before.equals(after)) {
            wrong++;
            System.out.println(when + ": the answers were " + before + " and are " + after);
        }
    }
}
