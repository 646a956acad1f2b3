/** Each promise with cases worked by hand; BoundaryTest has each boundary case of the document. */
public final class PromiseTest {
    private static final int MIN = Integer.MIN_VALUE;
    private static final int MAX = Integer.MAX_VALUE;
    private static int wrong = 0;

    private static void due(String what, int got, int want) {
        if (got != want) {
            wrong++;
            System.out.println(what + " answered " + got + ", due is " + want);
        }
    }

    public static void main(String[] args) {
        newObject();
        addEdges();
        addUpToEight();
        addRefusedChangesNothing();
        drop();
        dropMovesTheOthersBack();
        arrivedOfOneLine();
        arrivedWithWaiting();
        arrivedWithZeroTimes();
        arrivedWhereGreedyFails();
        placesZeroAndFour();
        quickest();
        first();
        gain();
        steady();
        steadyIsTheLateGrowth();
        exampleOfTheReadme();
        System.out.println(wrong == 0 ? "all answers are as due" : wrong + " answers are not as due");
        if (wrong != 0) {
            System.exit(1);
        }
    }

    private static void newObject() {
        QuickestFlow x = new QuickestFlow();
        due("1: drop(0)", x.drop(0), -1);
        due("1: gain(0, 0)", x.gain(0, 0), -1);
        for (int t = 0; t <= 12; t++) {
            due("1: arrived(" + t + ")", x.arrived(t), 0);
        }
        due("1: quickest(1)", x.quickest(1), -1);
        due("1: first", x.first(), -1);
        due("1: steady", x.steady(), 0);
        due("1: the first add", x.add(0, 4, 1, 0), 1);
    }

    private static void addEdges() {
        for (int from = 0; from <= 4; from++) {
            for (int to = 0; to <= 4; to++) {
                if (from != to) {
                    due("2: " + from + " to " + to, new QuickestFlow().add(from, to, 1, 0), 1);
                }
            }
        }
        for (int width = 1; width <= 4; width++) {
            for (int time = 0; time <= 3; time++) {
                QuickestFlow x = new QuickestFlow();
                due("2: width " + width + " time " + time, x.add(0, 4, width, time), 1);
                due("2: what it carries", x.arrived(12), width * (13 - time));
            }
        }
    }

    private static void addUpToEight() {
        QuickestFlow x = new QuickestFlow();
        for (int i = 1; i <= 8; i++) {
            due("2: the same line again", x.add(0, 4, 4, 0), i);
        }
        due("2: the ninth", x.add(0, 4, 4, 0), -1);
        due("2: eight lines carry", x.arrived(12), 8 * 4 * 13);
        due("2: eight lines carry in a moment", x.steady(), 32);
        due("2: drop the last", x.drop(7), 7);
        due("2: room again", x.add(0, 1, 4, 0), 8);
        due("2: the new one leads elsewhere", x.steady(), 28);
    }

    private static void addRefusedChangesNothing() {
        QuickestFlow x = new QuickestFlow();
        x.add(0, 4, 2, 1);
        x.add(0, 4, 9, 1);
        x.add(0, 4, 2, 9);
        due("2: refused adds", x.arrived(3), 6);
        due("2: number after refused adds", x.add(0, 4, 1, 3), 2);
        due("2: both lines", x.arrived(3), 7);
    }

    private static void drop() {
        QuickestFlow x = new QuickestFlow();
        x.add(0, 4, 1, 0);
        x.add(0, 4, 2, 0);
        int[] noLine = {-1, 2, 8, MIN, MAX};
        for (int n : noLine) {
            due("3: drop(" + n + ")", x.drop(n), -1);
        }
        due("3: refused drops change nothing", x.steady(), 3);
        due("3: drop(1)", x.drop(1), 1);
        due("3: the first stays", x.steady(), 1);
        due("3: drop(0)", x.drop(0), 0);
        due("3: none is left", x.steady(), 0);
        due("3: drop(0) of none", x.drop(0), -1);
    }

    private static void dropMovesTheOthersBack() {
        QuickestFlow x = new QuickestFlow();
        for (int i = 0; i < 8; i++) {
            x.add(0, 4, i % 4 + 1, i < 4 ? 0 : 3);
        }
        due("3: eight", x.arrived(3), 4 * 10 + 10);
        due("3: drop(2)", x.drop(2), 7);
        due("3: without width 3", x.arrived(3), 4 * 7 + 10);
        due("3: drop(2) is then width 4", x.drop(2), 6);
        due("3: without widths 3 and 4", x.arrived(3), 4 * 3 + 10);
        due("3: drop(2) is then the slow width 1", x.drop(2), 5);
        due("3: without that", x.arrived(3), 4 * 3 + 9);
        due("3: the last one's number", x.drop(5), -1);
        due("3: the last one", x.drop(4), 4);
        due("3: without the last", x.arrived(3), 4 * 3 + 5);

        QuickestFlow y = new QuickestFlow();
        y.add(0, 1, 1, 0);
        y.add(1, 2, 2, 1);
        y.add(0, 2, 3, 2);
        y.add(2, 4, 4, 3);
        due("3: drop(0) of a row", y.drop(0), 3);
        due("3: time kept", y.first(), 5);
        due("3: width kept", y.steady(), 3);
        due("3: the ends moved with their lines", y.gain(1, 5), 1);
    }

    private static void arrivedOfOneLine() {
        QuickestFlow x = new QuickestFlow();
        x.add(0, 4, 3, 2);
        int[] noMoment = {-1, 13, MIN, MAX};
        for (int t : noMoment) {
            due("4: arrived(" + t + ")", x.arrived(t), -1);
        }
        for (int t = 0; t <= 12; t++) {
            due("4: arrived(" + t + ")", x.arrived(t), t < 2 ? 0 : 3 * (t - 1));
        }
    }

    private static void arrivedWithWaiting() {
        QuickestFlow x = new QuickestFlow();
        x.add(0, 1, 4, 1);
        x.add(1, 4, 1, 0);
        x.add(0, 4, 1, 3);
        int[] want = {0, 1, 2, 4, 6, 8};
        for (int t = 0; t < want.length; t++) {
            due("4: narrow end, arrived(" + t + ")", x.arrived(t), want[t]);
        }
    }

    private static void arrivedWithZeroTimes() {
        QuickestFlow x = new QuickestFlow();
        x.add(3, 4, 2, 0);
        x.add(2, 3, 3, 0);
        x.add(1, 2, 4, 0);
        x.add(2, 1, 4, 0);
        due("4: a ring without the start yields nothing", x.arrived(12), 0);
        x.add(0, 1, 3, 0);
        due("4: four lines in one moment", x.arrived(0), 2);
        due("4: thirteen moments", x.arrived(12), 26);
    }

    /** The quick row 0-1-2-4 uses up both wide ends: it must be partly taken back for the two slow ones. */
    private static void arrivedWhereGreedyFails() {
        QuickestFlow x = new QuickestFlow();
        x.add(0, 1, 1, 0);
        x.add(0, 2, 1, 2);
        x.add(1, 2, 1, 0);
        x.add(1, 4, 1, 2);
        x.add(2, 4, 1, 0);
        int[] want = {1, 2, 3, 4, 6, 8, 10};
        for (int t = 0; t < want.length; t++) {
            due("4: taken back, arrived(" + t + ")", x.arrived(t), want[t]);
        }
    }

    private static void placesZeroAndFour() {
        QuickestFlow x = new QuickestFlow();
        x.add(0, 4, 1, 1);
        x.add(4, 1, 4, 0);
        x.add(1, 4, 4, 0);
        x.add(4, 0, 4, 0);
        due("4: nothing sets out from place 4", x.arrived(5), 5);
        due("8: nothing sets out from place 4", x.steady(), 1);
        due("7: wider out of place 4", x.gain(1, 5), 0);
        QuickestFlow y = new QuickestFlow();
        y.add(1, 0, 4, 0);
        y.add(0, 1, 1, 0);
        y.add(1, 4, 2, 0);
        due("4: back to place 0 is for nothing", y.arrived(2), 3);
        due("7: wider into place 0", y.gain(0, 2), 0);
    }

    private static void quickest() {
        QuickestFlow x = new QuickestFlow();
        due("5: nothing of no lines", x.quickest(0), 0);
        due("5: less than nothing", x.quickest(-1), 0);
        due("5: least int", x.quickest(MIN), 0);
        due("5: greatest int", x.quickest(MAX), -1);
        x.add(0, 4, 2, 3);
        due("5: 0", x.quickest(0), 0);
        due("5: least int", x.quickest(MIN), 0);
        for (int amount = 1; amount <= 20; amount++) {
            due("5: quickest(" + amount + ")", x.quickest(amount), 3 + (amount - 1) / 2);
        }
        due("5: one too many", x.quickest(21), -1);
        due("5: greatest int", x.quickest(MAX), -1);
        x.add(0, 4, 1, 0);
        due("5: at moment 0", x.quickest(1), 0);
        due("5: all there is", x.quickest(33), 12);
        due("5: one more", x.quickest(34), -1);
    }

    private static void first() {
        QuickestFlow x = new QuickestFlow();
        x.add(0, 1, 1, 3);
        x.add(1, 2, 1, 3);
        x.add(2, 3, 1, 3);
        due("6: not yet joined", x.first(), -1);
        x.add(3, 4, 1, 3);
        due("6: the longest shortest row", x.first(), 12);
        due("6: it just arrives", x.arrived(12), 1);
        x.add(3, 4, 1, 1);
        due("6: the quicker of two", x.first(), 10);
        x.add(1, 3, 1, 2);
        due("6: a short cut", x.first(), 6);
        x.add(0, 4, 1, 3);
        due("6: straight", x.first(), 3);
        x.add(0, 4, 4, 0);
        due("6: at once", x.first(), 0);
        QuickestFlow y = new QuickestFlow();
        y.add(4, 0, 4, 0);
        y.add(4, 3, 4, 0);
        y.add(3, 0, 4, 0);
        due("6: lines that lead the other way", y.first(), -1);
    }

    private static void gain() {
        QuickestFlow x = new QuickestFlow();
        x.add(0, 1, 4, 1);
        x.add(1, 4, 4, 1);
        x.add(0, 4, 4, 3);
        int[] noLine = {-1, 3, 8, MIN, MAX};
        for (int n : noLine) {
            due("7: gain(" + n + ", 5)", x.gain(n, 5), -1);
        }
        int[] noMoment = {-1, 13, MIN, MAX};
        for (int t : noMoment) {
            due("7: gain(0, " + t + ")", x.gain(0, t), -1);
            due("7: gain(9, " + t + ")", x.gain(9, t), -1);
        }
        for (int t = 0; t <= 12; t++) {
            due("7: one wider of two in a row, " + t, x.gain(0, t), 0);
            due("7: width 5, " + t, x.gain(2, t), t < 3 ? 0 : t - 2);
        }
        due("7: widths stay", x.arrived(12), 4 * 11 + 4 * 10);
        due("7: lines stay", x.drop(2), 2);
        due("7: of the one that was dropped", x.gain(2, 5), -1);
        x.drop(0);
        x.add(0, 1, 1, 1);
        due("7: the narrow one, now behind", x.gain(1, 12), 11);
        due("7: the wide one, now in front", x.gain(0, 12), 0);
    }

    private static void steady() {
        QuickestFlow x = new QuickestFlow();
        x.add(0, 1, 4, 3);
        x.add(0, 2, 2, 3);
        due("8: not yet joined", x.steady(), 0);
        x.add(1, 3, 3, 3);
        x.add(2, 3, 4, 3);
        x.add(3, 4, 4, 3);
        due("8: the last line is the narrow one", x.steady(), 4);
        x.add(3, 4, 4, 0);
        due("8: the middle is", x.steady(), 5);
        x.add(1, 2, 1, 0);
        due("8: the start is", x.steady(), 6);
    }

    private static void steadyIsTheLateGrowth() {
        QuickestFlow x = new QuickestFlow();
        x.add(0, 1, 2, 1);
        x.add(0, 2, 3, 0);
        x.add(1, 3, 1, 2);
        x.add(1, 4, 1, 3);
        x.add(2, 3, 2, 1);
        x.add(3, 4, 2, 0);
        for (int t = 9; t < 12; t++) {
            due("8: growth after " + t, x.arrived(t + 1) - x.arrived(t), x.steady());
        }
    }

    private static void exampleOfTheReadme() {
        QuickestFlow flow = new QuickestFlow();
        due("README: add(0, 1, 2, 1)", flow.add(0, 1, 2, 1), 1);
        due("README: add(1, 4, 1, 1)", flow.add(1, 4, 1, 1), 2);
        due("README: first()", flow.first(), 2);
        due("README: arrived(4)", flow.arrived(4), 3);
        due("README: quickest(3)", flow.quickest(3), 4);
        due("README: gain(1, 4)", flow.gain(1, 4), 3);
        due("README: steady()", flow.steady(), 1);
        due("README: drop(0)", flow.drop(0), 1);
    }
}
