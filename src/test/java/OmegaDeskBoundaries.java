/**
 * Each sentence of the document that names a boundary case, by a test of its own: the last number
 * that is still taken and the first that is refused on either side, the least and the greatest
 * int, no condition held and eight held. What refused calls leave behind is in OmegaDeskRefusals,
 * and the 512th call in OmegaDeskLastCall.
 */
public final class OmegaDeskBoundaries {
    /** Beside the neighbours of a range: numbers that would fall into it if cut to fewer bits. */
    private static final int[] FAR = {
        -65536, -256, 256, 65536, 1 << 30, Integer.MIN_VALUE, Integer.MIN_VALUE + 1,
        Integer.MAX_VALUE - 1, Integer.MAX_VALUE};

    private static final int NONE = 100;

    private static int wrong = 0;
    private static String sentence = "";

    private static void due(String call, int got, int want) {
        if (got != want) {
            wrong++;
            System.out.println("\"" + sentence + "\": " + call + " answered " + got + ", due is " + want);
        }
    }

    private static void test(String words, Runnable test) {
        sentence = words;
        test.run();
    }

    public static void main(String[] args) {
        terms();
        promisesThatChange();
        promisesThatAsk();
        System.out.println(wrong == 0 ? "all answers are as due" : wrong + " answers are not as due");
        if (wrong != 0) {
            System.exit(1);
        }
    }

    private static void terms() {
        test("VARIABLES are from -6 to 6", OmegaDeskBoundaries::variablesRange);
        test("VARIABLES are whole numbers", OmegaDeskBoundaries::variablesAreWhole);
        test("a * x + b * y + c * z <= d", OmegaDeskBoundaries::atMostTakesEqual);
        test("a * x + b * y + c * z = d", OmegaDeskBoundaries::equalTakesNothingElse);
        test("a, b, c from -9 to 9", OmegaDeskBoundaries::factorsRange);
        test("d from -99 to 99", OmegaDeskBoundaries::rightSideRange);
        test("At most 8 conditions are held", OmegaDeskBoundaries::atMostEight);
        test("numbered from 0 in the order in which they were added", OmegaDeskBoundaries::numbering);
        test("at the start none is", OmegaDeskBoundaries::noneAtTheStart);
        test("A SOLUTION meets all conditions held", OmegaDeskBoundaries::allAreMet);
        test("Solutions are ordered by x, then y, then z", OmegaDeskBoundaries::orderOfSolutions);
    }

    private static void promisesThatChange() {
        test("1: No condition", OmegaDeskBoundaries::newObject);
        test("2: equal is false or true", OmegaDeskBoundaries::addOfEitherSort);
        test("2: answers the number of conditions then", OmegaDeskBoundaries::addCounts);
        test("2: -1 if a is out of its range", () -> addRefusesFactor(0));
        test("2: -1 if b is out of its range", () -> addRefusesFactor(1));
        test("2: -1 if c is out of its range", () -> addRefusesFactor(2));
        test("2: -1 if d is out of its range", OmegaDeskBoundaries::addRefusesRightSide);
        test("2: -1 if there are 8", OmegaDeskBoundaries::addRefusesNinth);
        test("3: takes the condition with the number out", OmegaDeskBoundaries::dropTakesOut);
        test("3: the ones behind it move one place back", OmegaDeskBoundaries::dropMovesBack);
        test("3: they move with their sort", OmegaDeskBoundaries::dropMovesSorts);
        test("3: answers the number of conditions then", OmegaDeskBoundaries::dropCounts);
        test("3: -1 if there is none", OmegaDeskBoundaries::dropRefuses);
    }

    private static void promisesThatAsk() {
        test("4: 1 if there is a solution", OmegaDeskBoundaries::possibleAtOneRow);
        test("4: else 0", OmegaDeskBoundaries::impossible);
        test("5: the place (0: x, 1: y, 2: z) of the first solution", OmegaDeskBoundaries::firstAtEachPlace);
        test("5: 100 if there is none", OmegaDeskBoundaries::firstOfNone);
        test("5: 100 if place is not from 0 to 2", OmegaDeskBoundaries::firstOfWrongPlace);
        test("6: the least value or the greatest one", OmegaDeskBoundaries::extremesOfEach);
        test("6: 100 if there is none", OmegaDeskBoundaries::extremeOfNone);
        test("6: 100 if variable is not from 0 to 2", OmegaDeskBoundaries::extremeOfWrongVariable);
        test("7: 1 if there is a solution in which the variable has the value", OmegaDeskBoundaries::withTaken);
        test("7: else 0", OmegaDeskBoundaries::withOutOfReach);
        test("7: 0 also if variable is not from 0 to 2", OmegaDeskBoundaries::withWrongVariable);
        test("8: 1 if every solution meets it, else 0", OmegaDeskBoundaries::followsAtTheLastNumbers);
        test("8: 1 also if there is no solution", OmegaDeskBoundaries::followsFromNoSolution);
        test("8: -1 if a is out of its range", () -> followsRefusesFactor(0));
        test("8: -1 if b is out of its range", () -> followsRefusesFactor(1));
        test("8: -1 if c is out of its range", () -> followsRefusesFactor(2));
        test("8: -1 if d is out of its range", OmegaDeskBoundaries::followsRefusesRightSide);
        test("9: how many of the conditions held", OmegaDeskBoundaries::spareFromNoneToEight);
        test("9: each solution of all others meets it", OmegaDeskBoundaries::spareAtTheLastNumber);
        test("9: there is no solution of all others", OmegaDeskBoundaries::spareWithoutSolutions);
    }

    // Desks to ask

    /** Eight conditions of which each one shows by itself in heldOf. */
    private static final int[][] EIGHT = {
        {1, 0, 0, 5}, {-1, 0, 0, 5}, {0, 1, 0, 4}, {0, -1, 0, 4},
        {0, 0, 1, 3}, {0, 0, -1, 3}, {1, 1, 0, 7}, {0, 1, 1, 5}};

    private static void addFrom(OmegaDesk desk, int number) {
        int[] all = EIGHT[number];
        desk.add(all[0], all[1], all[2], all[3], false);
    }

    private static OmegaDesk deskOfEight() {
        OmegaDesk desk = new OmegaDesk();
        for (int number = 0; number < 8; number++) {
            addFrom(desk, number);
        }
        return desk;
    }

    /** One bit for each of EIGHT that is held. */
    private static int heldOf(OmegaDesk desk) {
        boolean[] held = {
            desk.extreme(0, true) == 5, desk.extreme(0, false) == -5,
            desk.extreme(1, true) == 4, desk.extreme(1, false) == -4,
            desk.extreme(2, true) == 3, desk.extreme(2, false) == -3,
            desk.follows(1, 1, 0, 7) == 1, desk.follows(0, 1, 1, 5) == 1};
        int bits = 0;
        for (int number = 0; number < 8; number++) {
            bits |= held[number] ? 1 << number : 0;
        }
        return bits;
    }

    /** Eight conditions of which the one with the number can't be met and all others always are. */
    private static OmegaDesk deskUnmetAt(int against) {
        OmegaDesk desk = new OmegaDesk();
        for (int number = 0; number < 8; number++) {
            desk.add(0, 0, 0, number == against ? -1 : 0, false);
        }
        return desk;
    }

    /** No condition, one, and eight that have solutions. */
    private static OmegaDesk[] desksWithSolutions() {
        OmegaDesk one = new OmegaDesk();
        one.add(1, 1, 1, 0, true);
        return new OmegaDesk[] {new OmegaDesk(), one, deskOfEight()};
    }

    /** One condition, two that are against each other, and eight. */
    private static OmegaDesk[] desksWithoutSolutions() {
        OmegaDesk one = new OmegaDesk();
        one.add(0, 0, 0, 1, true);
        OmegaDesk two = new OmegaDesk();
        two.add(1, 0, 0, 0, false);
        two.add(-1, 0, 0, -1, false);
        return new OmegaDesk[] {one, two, deskUnmetAt(0), deskUnmetAt(7)};
    }

    private static int addAt(OmegaDesk desk, int variable, int factor, int right, boolean equal) {
        return desk.add(variable == 0 ? factor : 0, variable == 1 ? factor : 0,
            variable == 2 ? factor : 0, right, equal);
    }

    private static int followsAt(OmegaDesk desk, int variable, int factor, int right) {
        return desk.follows(variable == 0 ? factor : 0, variable == 1 ? factor : 0,
            variable == 2 ? factor : 0, right);
    }

    private static OmegaDesk deskOf(int a, int b, int c, int d, boolean equal) {
        OmegaDesk desk = new OmegaDesk();
        desk.add(a, b, c, d, equal);
        return desk;
    }

    private static OmegaDesk deskAtRow(int x, int y, int z) {
        OmegaDesk desk = new OmegaDesk();
        desk.add(1, 0, 0, x, true);
        desk.add(0, 1, 0, y, true);
        desk.add(0, 0, 1, z, true);
        return desk;
    }

    /** The two neighbours of the range and numbers far away from it. */
    private static int[] outside(int least, int greatest) {
        int[] numbers = new int[FAR.length + 4];
        numbers[0] = least - 1;
        numbers[1] = greatest + 1;
        numbers[2] = least - 2;
        numbers[3] = greatest + 2;
        System.arraycopy(FAR, 0, numbers, 4, FAR.length);
        return numbers;
    }

    // Terms

    private static void variablesRange() {
        for (int variable = 0; variable < 3; variable++) {
            for (int value : new int[] {-6, 6, -7, 7}) {
                int want = value == -6 || value == 6 ? 1 : 0;
                OmegaDesk desk = new OmegaDesk();
                due("new: with(" + variable + ", " + value + ")", desk.with(variable, value), want);
                addAt(desk, variable, 1, value, true);
                due("variable " + variable + " = " + value + ": possible()", desk.possible(), want);
            }
            OmegaDesk desk = new OmegaDesk();
            due("follows: variable " + variable + " <= 6", followsAt(desk, variable, 1, 6), 1);
            due("follows: variable " + variable + " <= 5", followsAt(desk, variable, 1, 5), 0);
            due("follows: variable " + variable + " >= -6", followsAt(desk, variable, -1, 6), 1);
            due("follows: variable " + variable + " >= -5", followsAt(desk, variable, -1, 5), 0);
        }
    }

    private static void variablesAreWhole() {
        for (int variable = 0; variable < 3; variable++) {
            for (int right : new int[] {-3, -1, 1, 3}) {
                OmegaDesk desk = new OmegaDesk();
                addAt(desk, variable, 2, right, true);
                due("2 * variable " + variable + " = " + right + ": possible()", desk.possible(), 0);
            }
            OmegaDesk up = new OmegaDesk();
            addAt(up, variable, 2, 1, false);
            due("2 * variable <= 1: extreme(" + variable + ", true)", up.extreme(variable, true), 0);
            OmegaDesk down = new OmegaDesk();
            addAt(down, variable, -2, 1, false);
            due("-2 * variable <= 1: extreme(" + variable + ", false)", down.extreme(variable, false), 0);
        }
    }

    private static void atMostTakesEqual() {
        for (int variable = 0; variable < 3; variable++) {
            OmegaDesk desk = new OmegaDesk();
            addAt(desk, variable, 1, 2, false);
            due("variable <= 2: with(" + variable + ", 1)", desk.with(variable, 1), 1);
            due("variable <= 2: with(" + variable + ", 2)", desk.with(variable, 2), 1);
            due("variable <= 2: with(" + variable + ", 3)", desk.with(variable, 3), 0);
        }
    }

    private static void equalTakesNothingElse() {
        for (int variable = 0; variable < 3; variable++) {
            OmegaDesk desk = new OmegaDesk();
            addAt(desk, variable, 1, 2, true);
            due("variable = 2: with(" + variable + ", 1)", desk.with(variable, 1), 0);
            due("variable = 2: with(" + variable + ", 2)", desk.with(variable, 2), 1);
            due("variable = 2: with(" + variable + ", 3)", desk.with(variable, 3), 0);
        }
    }

    private static void factorsRange() {
        for (int variable = 0; variable < 3; variable++) {
            for (int factor = -9; factor <= 9; factor++) {
                OmegaDesk desk = new OmegaDesk();
                due("add with " + factor + " at " + variable, addAt(desk, variable, factor, 5 * factor, true), 1);
                int least = factor == 0 ? -6 : 5;
                due("factor " + factor + ": extreme(" + variable + ", false)", desk.extreme(variable, false), least);
                due("follows with " + factor + " at " + variable, followsAt(desk, variable, factor, 5 * factor), 1);
            }
            for (int factor : new int[] {-10, 10}) {
                OmegaDesk desk = new OmegaDesk();
                due("add with " + factor + " at " + variable, addAt(desk, variable, factor, 50, true), -1);
                due("follows with " + factor + " at " + variable, followsAt(desk, variable, factor, 50), -1);
            }
        }
    }

    private static void rightSideRange() {
        for (int right = -99; right <= 99; right++) {
            OmegaDesk desk = new OmegaDesk();
            due("add with d = " + right, desk.add(1, 9, 9, right, true), 1);
            due("x + 9y + 9z = " + right + ": possible()", desk.possible(), 1);
            due("x + 9y + 9z <= " + right, desk.follows(1, 9, 9, right), 1);
            due("x + 9y + 9z >= " + right, desk.follows(-1, -9, -9, -right), 1);
        }
        for (int right : new int[] {-100, 100}) {
            OmegaDesk desk = new OmegaDesk();
            due("add with d = " + right, desk.add(1, 9, 9, right, true), -1);
            due("follows with d = " + right, desk.follows(1, 9, 9, right), -1);
        }
    }

    private static void atMostEight() {
        OmegaDesk desk = deskOfEight();
        due("which of eight are held", heldOf(desk), 255);
        due("add the ninth", desk.add(0, 0, 0, -1, false), -1);
        due("which of eight are held after the ninth was refused", heldOf(desk), 255);
        due("drop(7)", desk.drop(7), 7);
        due("add the eighth again", desk.add(0, 1, 1, 5, false), 8);
        due("which of eight are held then", heldOf(desk), 255);
        due("add the ninth again", desk.add(0, 0, 0, -1, true), -1);
    }

    private static void numbering() {
        for (int number = 0; number < 8; number++) {
            OmegaDesk desk = deskOfEight();
            due("drop(" + number + ") of eight", desk.drop(number), 7);
            due("which are held after drop(" + number + ")", heldOf(desk), 255 - (1 << number));
            addFrom(desk, number);
            due("drop(7), the one added last", desk.drop(7), 7);
            due("which are held after it", heldOf(desk), 255 - (1 << number));
        }
    }

    private static void noneAtTheStart() {
        due("new: drop(0)", new OmegaDesk().drop(0), -1);
        due("new: which of eight are held", heldOf(new OmegaDesk()), 0);
        due("new: the first add", new OmegaDesk().add(9, 9, 9, 99, true), 1);
    }

    private static void allAreMet() {
        for (int against = 0; against < 8; against++) {
            OmegaDesk desk = new OmegaDesk();
            for (int number = 0; number < 8; number++) {
                desk.add(1, 0, 0, number == against ? 1 : 0, true);
            }
            due("x = 0 seven times and x = 1 as number " + against + ": possible()", desk.possible(), 0);
            due("drop(" + against + ")", desk.drop(against), 7);
            due("x = 0 seven times: possible()", desk.possible(), 1);
        }
    }

    /** The first solution has the least number at one place and the greatest one at those after it. */
    private static void orderOfSolutions() {
        OmegaDesk byX = new OmegaDesk();
        byX.add(6, 1, 0, 0, true);
        byX.add(6, 0, 1, 0, true);
        dueFirst("(-1, 6, 6), (0, 0, 0) and (1, -6, -6)", byX, -1, 6, 6);
        OmegaDesk byY = new OmegaDesk();
        byY.add(1, 0, 0, 3, true);
        byY.add(0, 5, 3, 5, true);
        dueFirst("(3, -2, 5), (3, 1, 0) and (3, 4, -5)", byY, 3, -2, 5);
        OmegaDesk byZ = new OmegaDesk();
        byZ.add(1, 0, 0, 3, true);
        byZ.add(0, 1, 0, 2, true);
        byZ.add(0, 0, -1, 4, false);
        dueFirst("(3, 2, -4) to (3, 2, 6)", byZ, 3, 2, -4);
    }

    private static void dueFirst(String when, OmegaDesk desk, int x, int y, int z) {
        due(when + ": first(0)", desk.first(0), x);
        due(when + ": first(1)", desk.first(1), y);
        due(when + ": first(2)", desk.first(2), z);
    }

    // Promise 1

    private static void newObject() {
        OmegaDesk desk = new OmegaDesk();
        due("possible()", desk.possible(), 1);
        due("spare()", desk.spare(), 0);
        dueFirst("new", desk, -6, -6, -6);
        for (int variable = 0; variable < 3; variable++) {
            due("extreme(" + variable + ", false)", desk.extreme(variable, false), -6);
            due("extreme(" + variable + ", true)", desk.extreme(variable, true), 6);
        }
        due("follows(0, 0, 0, -1)", desk.follows(0, 0, 0, -1), 0);
        for (int number = -1; number <= 8; number++) {
            due("drop(" + number + ")", desk.drop(number), -1);
        }
        OmegaDesk full = deskOfEight();
        due("a new one beside a full one: drop(0)", new OmegaDesk().drop(0), -1);
        due("the full one beside it: which are held", heldOf(full), 255);
    }

    // Promise 2

    private static void addOfEitherSort() {
        OmegaDesk atMost = deskOf(9, 9, 9, -99, false);
        due("9x + 9y + 9z <= -99: with(0, -6)", atMost.with(0, -6), 1);
        due("9x + 9y + 9z <= -99: x + y + z >= -11", atMost.follows(-1, -1, -1, 11), 0);
        due("9x + 9y + 9z <= -99: x + y + z <= -11", atMost.follows(1, 1, 1, -11), 1);
        OmegaDesk equal = deskOf(9, 9, 9, -99, true);
        due("9x + 9y + 9z = -99: x + y + z >= -11", equal.follows(-1, -1, -1, 11), 1);
        due("9x + 9y + 9z = -99: x + y + z <= -11", equal.follows(1, 1, 1, -11), 1);
        due("9x + 9y + 9z = -99: possible()", equal.possible(), 1);
    }

    private static void addCounts() {
        OmegaDesk desk = new OmegaDesk();
        for (int number = 1; number <= 8; number++) {
            due("add the same condition", desk.add(0, 0, 0, 0, number % 2 == 0), number);
        }
    }

    private static void addRefusesFactor(int variable) {
        for (OmegaDesk desk : new OmegaDesk[] {new OmegaDesk(), deskOf(1, 0, 0, 0, true), deskOfSeven()}) {
            for (int factor : outside(-9, 9)) {
                due("add with " + factor + ", <=", addAt(desk, variable, factor, 0, false), -1);
                due("add with " + factor + ", =", addAt(desk, variable, factor, 0, true), -1);
            }
            due("add with -9, =", addAt(desk, variable, -9, 0, true) > 0 ? 1 : 0, 1);
        }
        due("add with 9, <=", addAt(new OmegaDesk(), variable, 9, 0, false), 1);
    }

    private static void addRefusesRightSide() {
        for (OmegaDesk desk : new OmegaDesk[] {new OmegaDesk(), deskOf(1, 0, 0, 0, true), deskOfSeven()}) {
            for (int right : outside(-99, 99)) {
                due("add with d = " + right + ", <=", desk.add(0, 0, 0, right, false), -1);
                due("add with d = " + right + ", =", desk.add(0, 0, 0, right, true), -1);
            }
            due("add with d = -99, =", desk.add(0, 0, 0, -99, true) > 0 ? 1 : 0, 1);
        }
        due("add with d = 99, <=", new OmegaDesk().add(0, 0, 0, 99, false), 1);
    }

    private static OmegaDesk deskOfSeven() {
        OmegaDesk desk = deskOfEight();
        desk.drop(7);
        return desk;
    }

    private static void addRefusesNinth() {
        OmegaDesk desk = deskOfSeven();
        due("add the eighth", desk.add(0, 1, 1, 5, false), 8);
        for (int again = 0; again < 20; again++) {
            due("add the ninth, try " + again, desk.add(again % 9, 0, 0, -99, again % 2 == 0), -1);
        }
        due("add the ninth, out of range too", desk.add(10, 0, 0, 0, true), -1);
        due("which of eight are held", heldOf(desk), 255);
        due("drop(0)", desk.drop(0), 7);
        due("add the eighth again", desk.add(1, 0, 0, 5, false), 8);
        due("add the ninth again", desk.add(1, 0, 0, 5, false), -1);
    }

    // Promise 3

    private static void dropTakesOut() {
        for (int held = 1; held <= 8; held++) {
            for (int number = 0; number < held; number++) {
                OmegaDesk desk = new OmegaDesk();
                for (int next = 0; next < held; next++) {
                    addFrom(desk, next);
                }
                desk.drop(number);
                int want = (1 << held) - 1 - (1 << number);
                due("drop(" + number + ") of " + held + ": which are held", heldOf(desk), want);
            }
        }
    }

    private static void dropMovesBack() {
        for (int one = 0; one < 8; one++) {
            for (int other = 0; other < 7; other++) {
                OmegaDesk desk = deskOfEight();
                desk.drop(one);
                desk.drop(other);
                int moved = other < one ? other : other + 1;
                int want = 255 - (1 << one) - (1 << moved);
                due("drop(" + one + ") and drop(" + other + "): which are held", heldOf(desk), want);
            }
        }
        OmegaDesk desk = deskOfEight();
        int left = 255;
        for (int number = 0; number < 8; number++) {
            desk.drop(0);
            left -= 1 << number;
            due("drop(0) for the time " + number + ": which are held", heldOf(desk), left);
        }
    }

    private static void dropMovesSorts() {
        OmegaDesk desk = new OmegaDesk();
        desk.add(1, 0, 0, 1, false);
        desk.add(0, 1, 0, 2, true);
        desk.add(0, 0, 1, 3, false);
        desk.drop(0);
        due("y = 2 moved to 0: extreme(1, false)", desk.extreme(1, false), 2);
        due("z <= 3 moved to 1: extreme(2, false)", desk.extreme(2, false), -6);
        due("z <= 3 moved to 1: extreme(2, true)", desk.extreme(2, true), 3);
        desk.drop(0);
        due("z <= 3 moved to 0: extreme(2, false)", desk.extreme(2, false), -6);
        due("y free: extreme(1, false)", desk.extreme(1, false), -6);
        due("add where an = stood", desk.add(0, 1, 0, 2, false), 2);
        due("y <= 2: extreme(1, false)", desk.extreme(1, false), -6);
    }

    private static void dropCounts() {
        OmegaDesk first = deskOfEight();
        OmegaDesk last = deskOfEight();
        for (int left = 7; left >= 0; left--) {
            due("drop(0)", first.drop(0), left);
            due("drop(" + left + "), the last one", last.drop(left), left);
        }
        due("add after all were dropped", first.add(1, 0, 0, 5, false), 1);
        due("which of eight are held then", heldOf(first), 1);
    }

    private static void dropRefuses() {
        OmegaDesk desk = new OmegaDesk();
        for (int held = 0; held <= 8; held++) {
            for (int number : outside(0, held - 1)) {
                due("drop(" + number + ") of " + held, desk.drop(number), -1);
            }
            due("which of " + held + " are held after it", heldOf(desk), (1 << held) - 1);
            if (held < 8) {
                addFrom(desk, held);
            }
        }
        for (int left = 7; left >= 0; left--) {
            due("drop(" + left + ") of " + (left + 1), desk.drop(left), left);
            due("drop(" + left + ") again", desk.drop(left), -1);
        }
    }

    // Promise 4

    private static void possibleAtOneRow() {
        due("new: possible()", new OmegaDesk().possible(), 1);
        due("eight held: possible()", deskOfEight().possible(), 1);
        for (int x = -6; x <= 6; x += 6) {
            for (int y = -6; y <= 6; y += 6) {
                for (int z = -6; z <= 6; z += 6) {
                    OmegaDesk desk = deskAtRow(x, y, z);
                    due("only (" + x + ", " + y + ", " + z + "): possible()", desk.possible(), 1);
                }
            }
        }
        due("x + y + z = 18: possible()", deskOf(1, 1, 1, 18, true).possible(), 1);
        due("x + y + z <= -18: possible()", deskOf(1, 1, 1, -18, false).possible(), 1);
    }

    private static void impossible() {
        for (OmegaDesk desk : desksWithoutSolutions()) {
            due("no solution: possible()", desk.possible(), 0);
        }
        due("x + y + z = 19: possible()", deskOf(1, 1, 1, 19, true).possible(), 0);
        due("x + y + z <= -19: possible()", deskOf(1, 1, 1, -19, false).possible(), 0);
        due("x = 7: possible()", deskOf(1, 0, 0, 7, true).possible(), 0);
        due("y <= -7: possible()", deskOf(0, 1, 0, -7, false).possible(), 0);
        due("-z <= -7: possible()", deskOf(0, 0, -1, -7, false).possible(), 0);
        OmegaDesk desk = deskUnmetAt(3);
        desk.drop(3);
        due("the one against all dropped: possible()", desk.possible(), 1);
    }

    // Promise 5

    private static void firstAtEachPlace() {
        dueFirst("only the first row", deskAtRow(-6, -6, -6), -6, -6, -6);
        dueFirst("only the last row", deskAtRow(6, 6, 6), 6, 6, 6);
        dueFirst("only (1, -2, 3)", deskAtRow(1, -2, 3), 1, -2, 3);
        dueFirst("eight held", deskOfEight(), -5, -4, -3);
        dueFirst("none held", new OmegaDesk(), -6, -6, -6);
    }

    private static void firstOfNone() {
        for (OmegaDesk desk : desksWithoutSolutions()) {
            dueFirst("no solution", desk, NONE, NONE, NONE);
        }
    }

    private static void firstOfWrongPlace() {
        for (OmegaDesk[] desks : new OmegaDesk[][] {desksWithSolutions(), desksWithoutSolutions()}) {
            for (OmegaDesk desk : desks) {
                for (int place : outside(0, 2)) {
                    due("first(" + place + ")", desk.first(place), NONE);
                }
            }
        }
    }

    // Promise 6

    private static void dueExtremes(String when, OmegaDesk desk, int variable, int least, int greatest) {
        due(when + ": extreme(" + variable + ", false)", desk.extreme(variable, false), least);
        due(when + ": extreme(" + variable + ", true)", desk.extreme(variable, true), greatest);
    }

    private static void extremesOfEach() {
        for (int variable = 0; variable < 3; variable++) {
            dueExtremes("none held", new OmegaDesk(), variable, -6, 6);
            dueExtremes("eight held", deskOfEight(), variable, variable - 5, 5 - variable);
            dueExtremes("only the first row", deskAtRow(-6, -6, -6), variable, -6, -6);
            dueExtremes("only the last row", deskAtRow(6, 6, 6), variable, 6, 6);
            dueExtremes("only (0, 0, 0)", deskAtRow(0, 0, 0), variable, 0, 0);
            dueExtremes("only (1, 2, 3)", deskAtRow(1, 2, 3), variable, 1 + variable, 1 + variable);
        }
    }

    private static void extremeOfNone() {
        for (OmegaDesk desk : desksWithoutSolutions()) {
            for (int variable = 0; variable < 3; variable++) {
                dueExtremes("no solution", desk, variable, NONE, NONE);
            }
        }
    }

    private static void extremeOfWrongVariable() {
        for (OmegaDesk[] desks : new OmegaDesk[][] {desksWithSolutions(), desksWithoutSolutions()}) {
            for (OmegaDesk desk : desks) {
                for (int variable : outside(0, 2)) {
                    dueExtremes("wrong variable", desk, variable, NONE, NONE);
                }
            }
        }
    }

    // Promise 7

    private static void withTaken() {
        for (int variable = 0; variable < 3; variable++) {
            OmegaDesk none = new OmegaDesk();
            OmegaDesk eight = deskOfEight();
            int bound = 5 - variable;
            for (int value = -6; value <= 6; value++) {
                due("none held: with(" + variable + ", " + value + ")", none.with(variable, value), 1);
                int want = value >= -bound && value <= bound ? 1 : 0;
                due("eight held: with(" + variable + ", " + value + ")", eight.with(variable, value), want);
            }
        }
        for (int variable = 0; variable < 3; variable++) {
            due("only the first row: with(" + variable + ", -6)", deskAtRow(-6, -6, -6).with(variable, -6), 1);
            due("only the last row: with(" + variable + ", 6)", deskAtRow(6, 6, 6).with(variable, 6), 1);
        }
        OmegaDesk first = deskAtRow(-6, 0, 6);
        due("only (-6, 0, 6): with(0, -6)", first.with(0, -6), 1);
        due("only (-6, 0, 6): with(0, 6)", first.with(0, 6), 0);
        due("only (-6, 0, 6): with(1, 0)", first.with(1, 0), 1);
        due("only (-6, 0, 6): with(1, 6)", first.with(1, 6), 0);
        due("only (-6, 0, 6): with(2, 6)", first.with(2, 6), 1);
        due("only (-6, 0, 6): with(2, -6)", first.with(2, -6), 0);
    }

    private static void withOutOfReach() {
        for (int variable = 0; variable < 3; variable++) {
            for (OmegaDesk desk : desksWithSolutions()) {
                for (int value : outside(-6, 6)) {
                    due("with(" + variable + ", " + value + ")", desk.with(variable, value), 0);
                }
                due("with(" + variable + ", 100)", desk.with(variable, NONE), 0);
            }
            for (OmegaDesk desk : desksWithoutSolutions()) {
                for (int value = -7; value <= 7; value++) {
                    due("no solution: with(" + variable + ", " + value + ")", desk.with(variable, value), 0);
                }
                due("no solution: with(" + variable + ", 100)", desk.with(variable, NONE), 0);
            }
        }
        OmegaDesk odd = deskOf(1, -2, 0, 1, true);
        due("x = 2y + 1: with(0, 0), between two that are taken", odd.with(0, 0), 0);
        due("x = 2y + 1: with(0, 1)", odd.with(0, 1), 1);
    }

    private static void withWrongVariable() {
        for (OmegaDesk desk : desksWithSolutions()) {
            for (int variable : outside(0, 2)) {
                for (int value : new int[] {-6, 0, 6, NONE, Integer.MIN_VALUE, Integer.MAX_VALUE}) {
                    due("with(" + variable + ", " + value + ")", desk.with(variable, value), 0);
                }
            }
        }
    }

    // Promise 8

    private static void followsAtTheLastNumbers() {
        due("9x + 9y <= 99 where it is 99", deskAtRow(6, 5, 0).follows(9, 9, 0, 99), 1);
        due("9x + 9y <= 98 where it is 99", deskAtRow(6, 5, 0).follows(9, 9, 0, 98), 0);
        due("9x + 9y <= 99 where it is 108", deskAtRow(6, 6, 0).follows(9, 9, 0, 99), 0);
        due("-9y - 9z <= -99 where it is -99", deskAtRow(0, 5, 6).follows(0, -9, -9, -99), 1);
        due("-9y - 9z <= -99 where it is -90", deskAtRow(0, 5, 5).follows(0, -9, -9, -99), 0);
        due("-9y - 9z <= -99 where it is -108", deskAtRow(0, 6, 6).follows(0, -9, -9, -99), 1);
        due("9x + 9y + 9z <= 99 where it is 162", deskAtRow(6, 6, 6).follows(9, 9, 9, 99), 0);
        due("9x + 9y + 9z <= -99 where it is -162", deskAtRow(-6, -6, -6).follows(9, 9, 9, -99), 1);
        for (int variable = 0; variable < 3; variable++) {
            for (int factor : new int[] {-9, 9}) {
                OmegaDesk none = new OmegaDesk();
                due("none held: " + factor + " * variable <= 54", followsAt(none, variable, factor, 54), 1);
                due("none held: " + factor + " * variable <= 53", followsAt(none, variable, factor, 53), 0);
                OmegaDesk eight = deskOfEight();
                int greatest = 9 * (5 - variable);
                due("eight held: up to the greatest", followsAt(eight, variable, factor, greatest), 1);
                due("eight held: one less", followsAt(eight, variable, factor, greatest - 1), 0);
            }
        }
        due("only the first row is against it", new OmegaDesk().follows(-1, -1, -1, 17), 0);
        due("only the last row is against it", new OmegaDesk().follows(1, 1, 1, 17), 0);
        due("no row is against it", new OmegaDesk().follows(1, 1, 1, 18), 1);
    }

    private static void followsFromNoSolution() {
        for (OmegaDesk desk : desksWithoutSolutions()) {
            due("no solution: follows(0, 0, 0, -1)", desk.follows(0, 0, 0, -1), 1);
            due("no solution: follows(9, 9, 9, -99)", desk.follows(9, 9, 9, -99), 1);
            due("no solution: follows(-9, -9, -9, -99)", desk.follows(-9, -9, -9, -99), 1);
            due("no solution: follows(0, 0, 0, 99)", desk.follows(0, 0, 0, 99), 1);
        }
    }

    private static void followsRefusesFactor(int variable) {
        for (OmegaDesk[] desks : new OmegaDesk[][] {desksWithSolutions(), desksWithoutSolutions()}) {
            for (OmegaDesk desk : desks) {
                for (int factor : outside(-9, 9)) {
                    due("follows with " + factor, followsAt(desk, variable, factor, 99), -1);
                }
            }
        }
        due("follows with -9", followsAt(new OmegaDesk(), variable, -9, 99), 1);
        due("follows with 9", followsAt(new OmegaDesk(), variable, 9, 99), 1);
    }

    private static void followsRefusesRightSide() {
        for (OmegaDesk[] desks : new OmegaDesk[][] {desksWithSolutions(), desksWithoutSolutions()}) {
            for (OmegaDesk desk : desks) {
                for (int right : outside(-99, 99)) {
                    due("follows with d = " + right, desk.follows(0, 0, 0, right), -1);
                }
            }
        }
        due("follows with d = 99", new OmegaDesk().follows(0, 0, 0, 99), 1);
        due("follows with d = -99", new OmegaDesk().follows(0, 0, 0, -99), 0);
    }

    // Promise 9

    private static void spareFromNoneToEight() {
        due("none held: spare()", new OmegaDesk().spare(), 0);
        due("eight held, each of which is needed: spare()", deskOfEight().spare(), 0);
        OmegaDesk all = new OmegaDesk();
        for (int held = 1; held <= 8; held++) {
            all.add(0, 0, 0, 0, held % 2 == 0);
            due("all " + held + " always hold: spare()", all.spare(), held);
        }
        for (int needless = 0; needless < 8; needless++) {
            OmegaDesk desk = new OmegaDesk();
            for (int number = 0; number < 8; number++) {
                if (number == needless) {
                    desk.add(0, 0, 0, 0, true);
                } else {
                    addFrom(desk, number);
                }
            }
            due("number " + needless + " of eight always holds: spare()", desk.spare(), 1);
        }
    }

    private static void spareAtTheLastNumber() {
        for (int variable = 0; variable < 3; variable++) {
            for (int factor = -1; factor <= 1; factor += 2) {
                OmegaDesk always = new OmegaDesk();
                addAt(always, variable, factor, 6, false);
                due("a variable at most 6 away: spare()", always.spare(), 1);
                OmegaDesk needed = new OmegaDesk();
                addAt(needed, variable, factor, 5, false);
                due("a variable at most 5 away: spare()", needed.spare(), 0);
            }
        }
        OmegaDesk twice = deskOf(1, 1, 1, 3, true);
        due("x + y + z = 3: spare()", twice.spare(), 0);
        twice.add(1, 1, 1, 3, true);
        due("x + y + z = 3 twice: spare()", twice.spare(), 2);
        OmegaDesk near = deskOf(1, 1, 1, 3, true);
        near.add(1, 1, 1, 3, false);
        due("x + y + z = 3 and <= 3: spare()", near.spare(), 1);
        near.drop(1);
        near.add(1, 1, 1, 2, false);
        due("x + y + z = 3 and <= 2: spare()", near.spare(), 0);
        OmegaDesk whole = deskOf(2, 0, 0, 1, false);
        whole.add(1, 0, 0, 0, false);
        due("2x <= 1 and x <= 0, the same for whole numbers: spare()", whole.spare(), 2);
    }

    private static void spareWithoutSolutions() {
        due("one that can't be met: spare()", deskOf(0, 0, 0, -1, false).spare(), 0);
        OmegaDesk two = deskOf(0, 0, 0, -1, false);
        two.add(0, 0, 0, 99, true);
        due("two that can't be met: spare()", two.spare(), 2);
        OmegaDesk against = deskOf(1, 0, 0, 0, true);
        against.add(1, 0, 0, 1, true);
        due("x = 0 and x = 1: spare()", against.spare(), 0);
        against.add(0, 1, 0, 0, true);
        due("x = 0, x = 1 and y = 0: spare()", against.spare(), 1);
        due("number 0 of eight can't be met: spare()", deskUnmetAt(0).spare(), 7);
        due("number 7 of eight can't be met: spare()", deskUnmetAt(7).spare(), 7);
    }
}
