import java.util.ArrayList;
import java.util.List;

/**
 * One test for each sentence of the document that names a boundary case: the last value that is still
 * allowed and the first one that isn't, far values, no line and 8 lines, and calls that change nothing.
 */
public final class BoundaryTest {
    private static final int MIN = Integer.MIN_VALUE;
    private static final int MAX = Integer.MAX_VALUE;
    private static final int MOST_CALLS = 512;

    /** Cut down to a byte, a short or fewer bits, most of these would be fit values. */
    private static final int[] FAR = {
        MIN, MIN + 1, MIN + 2, -65536, -65535, -256, -255, -16, -15, -8, -7, -5, -4, -3, -2,
        16, 17, 31, 32, 33, 64, 65, 128, 129, 255, 256, 257, 65535, 65536, 65537, MAX - 1, MAX,
    };

    private static String sentence = "";
    private static int wrong = 0;
    private static int checked = 0;

    private static void due(String what, Object got, Object want) {
        checked++;
        if (!got.equals(want)) {
            wrong++;
            System.out.println("[" + sentence + "] " + what + " answered " + got + ", due is " + want);
        }
    }

    /** An object that sees to it that no test asks for more calls than the document promises. */
    private static final class Flow {
        private final QuickestFlow inner = new QuickestFlow();
        private int calls = 0;

        private QuickestFlow called() {
            calls++;
            if (calls > MOST_CALLS) {
                due("the test itself: calls of one object", calls, MOST_CALLS);
            }
            return inner;
        }

        int add(int from, int to, int width, int time) {
            return called().add(from, to, width, time);
        }

        int drop(int number) {
            return called().drop(number);
        }

        int arrived(int t) {
            return called().arrived(t);
        }

        int quickest(int amount) {
            return called().quickest(amount);
        }

        int first() {
            return called().first();
        }

        int gain(int number, int t) {
            return called().gain(number, t);
        }

        int steady() {
            return called().steady();
        }
    }

    private interface Call {
        int on(Flow x);
    }

    private static final class Named {
        final String name;
        final Call call;

        Named(String name, Call call) {
            this.name = name;
            this.call = call;
        }
    }

    /** Lines that all differ, and each of which counts for some answer. */
    private static final int[][] MIXED = {
        {0, 1, 4, 1}, {1, 4, 1, 2}, {0, 2, 2, 0}, {2, 4, 3, 3}, {0, 3, 3, 2}, {3, 4, 4, 0}, {1, 2, 1, 1}, {0, 4, 2, 1},
    };

    private static Flow of(int[]... lines) {
        Flow x = new Flow();
        for (int i = 0; i < lines.length; i++) {
            due("add for line " + i, x.add(lines[i][0], lines[i][1], lines[i][2], lines[i][3]), i + 1);
        }
        return x;
    }

    private static Flow mixed(int count) {
        int[][] lines = new int[count][];
        System.arraycopy(MIXED, 0, lines, 0, count);
        return of(lines);
    }

    private static Flow alike(int count, int width, int time) {
        int[][] lines = new int[count][];
        for (int i = 0; i < count; i++) {
            lines[i] = new int[] {0, 4, width, time};
        }
        return of(lines);
    }

    /** The lines held, as far as answers tell them. */
    private static String picture(Flow x) {
        StringBuilder seen = new StringBuilder();
        for (int t = 0; t <= 12; t++) {
            seen.append(x.arrived(t)).append(' ');
        }
        seen.append("| ").append(x.first()).append(' ').append(x.steady()).append(" |");
        for (int number = 0; number <= 8; number++) {
            seen.append(' ').append(x.gain(number, 4)).append(' ').append(x.gain(number, 12));
        }
        return seen.toString();
    }

    private static void changesNothing(int lines, String name, Call call, int answer) {
        Flow x = mixed(lines);
        Flow untouched = mixed(lines);
        due(name + " with " + lines + " lines", call.on(x), answer);
        due("all after " + name, picture(x), picture(untouched));
        if (lines < 8) {
            due("add after " + name, x.add(0, 4, 3, 1), untouched.add(0, 4, 3, 1));
            due("all after " + name + " and add", picture(x), picture(untouched));
        }
        for (int left = Math.min(lines + 1, 8) - 1; left >= 0; left--) {
            due("drop after " + name, x.drop(0), left);
            untouched.drop(0);
            due("all after " + name + " and drop", picture(x), picture(untouched));
        }
        due("drop of none after " + name, x.drop(0), -1);
    }

    private static void changesNothing(int lines, List<Named> calls) {
        for (Named one : calls) {
            changesNothing(lines, one.name, one.call, -1);
        }
    }

    private static List<Integer> farAnd(int... near) {
        List<Integer> all = new ArrayList<>();
        for (int value : near) {
            all.add(value);
        }
        for (int value : FAR) {
            all.add(value);
        }
        return all;
    }

    // What it is

    /** Each kind of call as the 512th one; the calls before it fill and empty the object many times. */
    private static void lastPromisedCall() {
        for (int kind = 0; kind < 9; kind++) {
            Flow x = new Flow();
            for (int i = 0; i < 14; i++) {
                for (int held = 1; held <= 8; held++) {
                    due("add", x.add(0, 4, 4, 3), held);
                }
                due("add of a ninth", x.add(0, 4, 4, 3), -1);
                due("arrived", x.arrived(12), 320);
                due("steady", x.steady(), 32);
                due("first", x.first(), 3);
                due("quickest", x.quickest(320), 12);
                due("gain", x.gain(7, 12), 10);
                for (int held = 7; held >= 0; held--) {
                    due("drop", x.drop(0), held);
                }
                for (int j = 0; j < 14; j++) {
                    due("drop of none", x.drop(0), -1);
                }
            }
            for (int held = 1; held <= 7; held++) {
                due("add", x.add(0, 4, held % 4 + 1, 1), held);
            }
            due("calls before the 512th", MOST_CALLS - 1 - x.calls, 0);
            lastCall(x, kind);
        }
    }

    private static void lastCall(Flow x, int kind) {
        switch (kind) {
            case 0: due("add", x.add(0, 4, 1, 0), 8); break;
            case 1: due("wrong add", x.add(0, 0, 1, 0), -1); break;
            case 2: due("drop", x.drop(6), 6); break;
            case 3: due("wrong drop", x.drop(7), -1); break;
            case 4: due("arrived", x.arrived(12), 19 * 12); break;
            case 5: due("quickest", x.quickest(19 * 12), 12); break;
            case 6: due("first", x.first(), 1); break;
            case 7: due("gain", x.gain(6, 12), 12); break;
            default: due("steady", x.steady(), 19); break;
        }
    }

    private static void fiveHundredRefusedCalls() {
        Flow x = new Flow();
        for (int i = 0; i < 100; i++) {
            due("add", x.add(0, 5, 1, 0), -1);
            due("drop", x.drop(0), -1);
            due("arrived", x.arrived(13), -1);
            due("gain", x.gain(0, 0), -1);
            due("quickest", x.quickest(1), -1);
        }
        for (int held = 1; held <= 8; held++) {
            due("add", x.add(0, 4, 1, 0), held);
        }
        due("a ninth", x.add(0, 4, 1, 0), -1);
        due("arrived", x.arrived(12), 104);
    }

    // Terms

    private static void goodsStartFromZeroAndAreWantedAtFour() {
        for (int from = 0; from <= 4; from++) {
            for (int to = 0; to <= 4; to++) {
                if (from != to) {
                    boolean straight = from == 0 && to == 4;
                    Flow x = of(new int[] {from, to, 2, 0});
                    due("arrived over " + from + " to " + to, x.arrived(12), straight ? 26 : 0);
                    due("first over " + from + " to " + to, x.first(), straight ? 0 : -1);
                    due("steady over " + from + " to " + to, x.steady(), straight ? 2 : 0);
                }
            }
        }
    }

    private static void linesAreNumberedFromZeroInOrder() {
        for (int wide = 0; wide < 8; wide++) {
            Flow x = new Flow();
            for (int i = 0; i < 8; i++) {
                x.add(0, 4, 1, i == wide ? 0 : 3);
            }
            for (int number = 0; number < 8; number++) {
                due("gain(" + number + ", 2), line " + wide + " alone is quick", x.gain(number, 2), number == wide ? 3 : 0);
            }
        }
    }

    private static void atMostTheWidthSetsOutInOneMoment() {
        for (int width = 1; width <= 4; width++) {
            Flow x = of(new int[] {0, 4, width, 0});
            due("arrived(0), width " + width, x.arrived(0), width);
            due("arrived(1), width " + width, x.arrived(1), 2 * width);
            due("steady, width " + width, x.steady(), width);
        }
    }

    private static void goodsArriveAsManyMomentsLaterAsTheTravelTime() {
        for (int time = 0; time <= 3; time++) {
            Flow x = of(new int[] {0, 4, 4, time});
            for (int t = 0; t <= 12; t++) {
                due("arrived(" + t + "), time " + time, x.arrived(t), t < time ? 0 : 4 * (t - time + 1));
            }
        }
    }

    private static void goodsMayWait() {
        Flow x = of(new int[] {0, 1, 4, 0}, new int[] {1, 2, 2, 3}, new int[] {2, 4, 1, 0});
        for (int t = 0; t <= 12; t++) {
            due("arrived(" + t + ")", x.arrived(t), t < 3 ? 0 : t - 2);
        }
    }

    private static void goodsMaySetOutInTheMomentInWhichTheyArrive() {
        for (int one = 0; one <= 3; one++) {
            for (int two = 0; two <= 3; two++) {
                Flow x = of(new int[] {0, 3, 4, one}, new int[] {3, 4, 3, two});
                int sum = one + two;
                due("first, " + one + " and " + two, x.first(), sum);
                due("arrived at it", x.arrived(sum), 3);
                if (sum > 0) {
                    due("arrived before it", x.arrived(sum - 1), 0);
                }
            }
        }
    }

    private static void nothingSetsOutThatHasNotArrived() {
        Flow x = of(new int[] {1, 4, 4, 0}, new int[] {2, 4, 4, 0}, new int[] {3, 4, 4, 0});
        due("arrived without a line from place 0", x.arrived(12), 0);
        due("first without a line from place 0", x.first(), -1);
        due("steady without a line from place 0", x.steady(), 0);
        due("quickest(1) without a line from place 0", x.quickest(1), -1);
        x.add(0, 1, 1, 3);
        due("arrived(2)", x.arrived(2), 0);
        due("arrived(3)", x.arrived(3), 1);
        due("arrived(12)", x.arrived(12), 10);
    }

    private static void atPlaceFourNoneSetsOut() {
        Flow x = of(new int[] {0, 4, 1, 0}, new int[] {4, 1, 4, 0}, new int[] {1, 4, 4, 0}, new int[] {4, 0, 4, 0});
        for (int t = 0; t <= 12; t++) {
            due("arrived(" + t + ")", x.arrived(t), t + 1);
            due("gain(1, " + t + ") out of place 4", x.gain(1, t), 0);
            due("gain(2, " + t + ") back into place 4", x.gain(2, t), 0);
            due("gain(3, " + t + ") out of place 4", x.gain(3, t), 0);
        }
        due("steady", x.steady(), 1);
        due("a line out of place 4 is numbered", x.drop(3), 3);
    }

    private static void linesOfTimeZeroInOneMoment() {
        Flow x = of(new int[] {3, 4, 1, 0}, new int[] {2, 3, 2, 0}, new int[] {1, 2, 3, 0}, new int[] {0, 1, 4, 0});
        due("arrived(0) over four lines", x.arrived(0), 1);
        due("first over four lines", x.first(), 0);
        due("quickest(13)", x.quickest(13), 12);
    }

    private static void notRoundInARingForNothing() {
        Flow x = of(new int[] {1, 2, 4, 0}, new int[] {2, 3, 4, 0}, new int[] {3, 1, 4, 0}, new int[] {3, 4, 4, 0});
        due("arrived(12) of a ring alone", x.arrived(12), 0);
        due("first of a ring alone", x.first(), -1);
        due("steady of a ring alone", x.steady(), 0);
        due("gain in a ring alone", x.gain(0, 12), 0);
        x.add(0, 1, 1, 0);
        due("arrived(0) of a fed ring", x.arrived(0), 1);
        due("arrived(12) of a fed ring", x.arrived(12), 13);
        due("steady of a fed ring", x.steady(), 1);
        Flow y = of(new int[] {0, 1, 1, 0}, new int[] {1, 0, 4, 0}, new int[] {1, 4, 4, 0});
        due("arrived(0) with a ring through place 0", y.arrived(0), 1);
        due("arrived(12) with a ring through place 0", y.arrived(12), 13);
    }

    private static void theYieldCountsUpToAndWithTheMoment() {
        Flow x = of(new int[] {0, 1, 1, 3}, new int[] {1, 2, 1, 3}, new int[] {2, 3, 1, 3}, new int[] {3, 4, 1, 3});
        due("arrived(11)", x.arrived(11), 0);
        due("arrived(12)", x.arrived(12), 1);
    }

    // Promise 1

    private static void newObjectHasNoLine() {
        for (int t = 0; t <= 12; t++) {
            due("arrived(" + t + ")", new Flow().arrived(t), 0);
            due("gain(0, " + t + ")", new Flow().gain(0, t), -1);
        }
        due("quickest(0)", new Flow().quickest(0), 0);
        due("quickest(1)", new Flow().quickest(1), -1);
        due("first", new Flow().first(), -1);
        due("steady", new Flow().steady(), 0);
        for (int number = 0; number <= 8; number++) {
            due("drop(" + number + ")", new Flow().drop(number), -1);
        }
        due("the first add", new Flow().add(0, 4, 1, 0), 1);
    }

    private static void newObjectHasNoLineOfAnother() {
        Flow full = alike(8, 4, 0);
        Flow x = new Flow();
        due("arrived", x.arrived(12), 0);
        due("add", x.add(0, 4, 1, 0), 1);
        due("arrived of the other", full.arrived(12), 416);
    }

    // Promise 2

    private static void addAnswersTheNumberOfLines() {
        Flow x = new Flow();
        for (int held = 1; held <= 8; held++) {
            due("add", x.add(held % 4, 4, 1, 0), held);
        }
    }

    private static void addIsRefusedIfThereAreEight() {
        for (int from = 0; from <= 4; from++) {
            for (int to = 0; to <= 4; to++) {
                due("a ninth from " + from + " to " + to, mixed(8).add(from, to, 1, 0), -1);
            }
        }
        for (int far : FAR) {
            due("a ninth of width " + far, mixed(8).add(0, 4, far, 0), -1);
        }
        Flow x = alike(8, 1, 0);
        for (int i = 0; i < 20; i++) {
            due("a ninth, again", x.add(0, 4, 4, 0), -1);
        }
        due("arrived", x.arrived(0), 8);
        due("drop", x.drop(0), 7);
        due("an eighth", x.add(0, 4, 4, 0), 8);
        due("a ninth", x.add(0, 4, 4, 0), -1);
        due("arrived", x.arrived(0), 11);
    }

    private static void addWithAWrongFrom() {
        for (int from : farAnd(-1, 5, 6)) {
            for (int to = 0; to <= 4; to++) {
                due("from " + from + " to " + to, new Flow().add(from, to, 1, 0), -1);
            }
        }
        due("from 0", new Flow().add(0, 2, 1, 0), 1);
        due("from 4", new Flow().add(4, 2, 1, 0), 1);
    }

    private static void addWithAWrongTo() {
        for (int to : farAnd(-1, 5, 6)) {
            for (int from = 0; from <= 4; from++) {
                due("from " + from + " to " + to, new Flow().add(from, to, 1, 0), -1);
            }
        }
        due("to 0", new Flow().add(2, 0, 1, 0), 1);
        due("to 4", new Flow().add(2, 4, 1, 0), 1);
    }

    private static void addFromAPlaceToItself() {
        for (int place = 0; place <= 4; place++) {
            due("from and to " + place, new Flow().add(place, place, 1, 0), -1);
            due("from " + place, new Flow().add(place, (place + 1) % 5, 1, 0), 1);
            due("to " + place, new Flow().add((place + 1) % 5, place, 1, 0), 1);
        }
        for (int place : farAnd(-1, 5)) {
            due("from and to " + place, new Flow().add(place, place, 1, 0), -1);
        }
    }

    private static void addWithAWrongWidth() {
        for (int width : farAnd(-1, 0, 5, 6)) {
            due("width " + width, new Flow().add(0, 4, width, 0), -1);
        }
        due("width 1", new Flow().add(0, 4, 1, 0), 1);
        due("width 4", new Flow().add(0, 4, 4, 0), 1);
    }

    private static void addWithAWrongTime() {
        for (int time : farAnd(-1, 4, 5)) {
            due("time " + time, new Flow().add(0, 4, 1, time), -1);
        }
        due("time 0", new Flow().add(0, 4, 1, 0), 1);
        due("time 3", new Flow().add(0, 4, 1, 3), 1);
    }

    private static void addOfEveryNearValue() {
        for (int from = -2; from <= 6; from++) {
            for (int to = -2; to <= 6; to++) {
                for (int width = -1; width <= 6; width++) {
                    for (int time = -2; time <= 5; time++) {
                        boolean places = from >= 0 && from <= 4 && to >= 0 && to <= 4 && from != to;
                        boolean fit = places && width >= 1 && width <= 4 && time >= 0 && time <= 3;
                        Flow x = new Flow();
                        String what = "add(" + from + ", " + to + ", " + width + ", " + time + ")";
                        due(what, x.add(from, to, width, time), fit ? 1 : -1);
                        due("drop(0) after " + what, x.drop(0), fit ? 0 : -1);
                    }
                }
            }
        }
    }

    private static void refusedAddChangesNothing() {
        List<Named> calls = new ArrayList<>();
        for (int far : new int[] {MIN, -1, 5, 256, MAX}) {
            calls.add(new Named("add from " + far, x -> x.add(far, 4, 1, 0)));
            calls.add(new Named("add to " + far, x -> x.add(0, far, 1, 0)));
            calls.add(new Named("add of width " + far, x -> x.add(0, 4, far, 0)));
            calls.add(new Named("add of time " + far, x -> x.add(0, 4, 1, far)));
        }
        calls.add(new Named("add of width 0", x -> x.add(0, 4, 0, 0)));
        calls.add(new Named("add of time 4", x -> x.add(0, 4, 1, 4)));
        calls.add(new Named("add from 0 to 0", x -> x.add(0, 0, 1, 0)));
        calls.add(new Named("add from 4 to 4", x -> x.add(4, 4, 1, 0)));
        calls.add(new Named("add of nothing fit", x -> x.add(-1, -1, 0, -1)));
        for (int lines : new int[] {0, 1, 7, 8}) {
            changesNothing(lines, calls);
        }
        changesNothing(8, "add of a ninth", x -> x.add(0, 4, 4, 0), -1);
        changesNothing(8, "add of a ninth", x -> x.add(3, 2, 1, 3), -1);
    }

    // Promise 3

    private static void dropAnswersTheNumberOfLines() {
        Flow front = mixed(8);
        Flow back = mixed(8);
        for (int left = 7; left >= 0; left--) {
            due("drop of the first", front.drop(0), left);
            due("drop of the last", back.drop(left), left);
        }
        due("drop of none", front.drop(0), -1);
        due("drop of none", back.drop(0), -1);
    }

    private static void dropTakesTheLineWithTheNumberOut() {
        for (int number = 0; number < 8; number++) {
            for (int count = number + 1; count <= 8; count++) {
                Flow x = mixed(count);
                due("drop(" + number + ") of " + count, x.drop(number), count - 1);
                int[][] left = new int[count - 1][];
                for (int i = 0; i < count - 1; i++) {
                    left[i] = MIXED[i < number ? i : i + 1];
                }
                due("all after drop(" + number + ") of " + count, picture(x), picture(of(left)));
            }
        }
    }

    private static void theOnesBehindMoveOnePlaceBack() {
        for (int number = 0; number < 8; number++) {
            Flow x = new Flow();
            for (int i = 0; i < 8; i++) {
                x.add(0, 4, 1, i <= number ? 3 : 0);
            }
            due("drop(" + number + ")", x.drop(number), 7);
            for (int i = 0; i < 7; i++) {
                due("gain(" + i + ", 2) after drop(" + number + ")", x.gain(i, 2), i < number ? 0 : 3);
            }
            due("gain of the number left free", x.gain(7, 2), -1);
            due("drop of the number left free", x.drop(7), -1);
        }
    }

    private static void aNewLineComesBehindTheOnesLeft() {
        Flow x = alike(8, 1, 3);
        due("drop(3)", x.drop(3), 7);
        due("add", x.add(0, 4, 2, 0), 8);
        for (int number = 0; number < 8; number++) {
            due("gain(" + number + ", 2)", x.gain(number, 2), number == 7 ? 3 : 0);
        }
        due("drop(7)", x.drop(7), 7);
        due("arrived(2)", x.arrived(2), 0);
    }

    private static void dropIsRefusedIfThereIsNone() {
        for (int count = 0; count <= 8; count++) {
            for (int number : farAnd(-1, count, count + 1, 8, 9)) {
                due("drop(" + number + ") of " + count, mixed(count).drop(number), -1);
            }
            if (count > 0) {
                due("drop(0) of " + count, mixed(count).drop(0), count - 1);
                due("drop of the last of " + count, mixed(count).drop(count - 1), count - 1);
            }
        }
    }

    private static void refusedDropChangesNothing() {
        for (int count : new int[] {0, 1, 2, 7, 8}) {
            for (int number : new int[] {MIN, -8, -1, count, count + 1, 9, 256, MAX}) {
                changesNothing(count, "drop(" + number + ")", x -> x.drop(number), -1);
            }
        }
    }

    // Promise 4

    private static void arrivedOutOfItsRange() {
        for (int lines : new int[] {0, 1, 8}) {
            for (int t : farAnd(-1, 13, 14)) {
                due("arrived(" + t + ") with " + lines + " lines", alike(lines, 4, 0).arrived(t), -1);
            }
            due("arrived(0) with " + lines + " lines", alike(lines, 4, 0).arrived(0), 4 * lines);
            due("arrived(12) with " + lines + " lines", alike(lines, 4, 0).arrived(12), 52 * lines);
        }
    }

    private static void arrivedOfTheLeastAndTheGreatest() {
        Flow none = new Flow();
        Flow slow = alike(8, 1, 3);
        Flow most = alike(8, 4, 0);
        for (int t = 0; t <= 12; t++) {
            due("arrived(" + t + ") of no line", none.arrived(t), 0);
            due("arrived(" + t + ") of 8 narrow, slow lines", slow.arrived(t), t < 3 ? 0 : 8 * (t - 2));
            due("arrived(" + t + ") of 8 wide, quick lines", most.arrived(t), 32 * (t + 1));
        }
    }

    private static void arrivedChangesNothing() {
        for (int lines : new int[] {0, 1, 8}) {
            for (int t : new int[] {MIN, -1, 13, MAX}) {
                changesNothing(lines, "arrived(" + t + ")", x -> x.arrived(t), -1);
            }
        }
        changesNothing(8, "arrived(0)", x -> x.arrived(0), 0);
        changesNothing(1, "arrived(12)", x -> x.arrived(12), 0);
    }

    // Promise 5

    private static void quickestOfNothingOrLess() {
        for (int lines : new int[] {0, 1, 8}) {
            for (int amount : new int[] {MIN, MIN + 1, -65536, -256, -1, 0}) {
                due("quickest(" + amount + ") with " + lines + " lines", alike(lines, 1, 3).quickest(amount), 0);
            }
        }
    }

    private static void quickestIsTheFirstMomentWithTheAmount() {
        Flow most = alike(8, 4, 0);
        Flow slow = alike(8, 1, 3);
        for (int t = 0; t <= 12; t++) {
            due("quickest of just what " + t + " yields", most.quickest(32 * (t + 1)), t);
            due("quickest of one more than the moment before " + t, most.quickest(32 * t + 1), t);
            if (t >= 3) {
                due("slow: quickest of just what " + t + " yields", slow.quickest(8 * (t - 2)), t);
                due("slow: quickest of one more than the moment before " + t, slow.quickest(8 * (t - 3) + 1), t);
            }
        }
    }

    private static void quickestIfThereIsNoSuchMoment() {
        for (int amount : new int[] {1, 2, 256, 65536, MAX - 1, MAX}) {
            due("quickest(" + amount + ") of no line", new Flow().quickest(amount), -1);
            due("quickest(" + amount + ") of no row", mixed(1).quickest(amount), -1);
        }
        Flow most = alike(8, 4, 0);
        for (int amount : new int[] {417, 418, 512, 65536, 65537, MAX - 1, MAX}) {
            due("quickest(" + amount + ") of 8 wide, quick lines", most.quickest(amount), -1);
        }
        due("quickest(416)", most.quickest(416), 12);
        Flow row = of(new int[] {0, 1, 1, 3}, new int[] {1, 2, 1, 3}, new int[] {2, 3, 1, 3}, new int[] {3, 4, 1, 3});
        due("quickest(1) of the slowest row", row.quickest(1), 12);
        due("quickest(2) of the slowest row, which 13 would yield", row.quickest(2), -1);
    }

    private static void quickestChangesNothing() {
        for (int lines : new int[] {0, 1, 8}) {
            changesNothing(lines, "quickest(greatest)", x -> x.quickest(MAX), -1);
            changesNothing(lines, "quickest(least)", x -> x.quickest(MIN), 0);
            changesNothing(lines, "quickest(0)", x -> x.quickest(0), 0);
        }
    }

    // Promise 6

    private static void firstIsTheLeastSumOfTravelTimes() {
        for (int a = 0; a <= 3; a++) {
            for (int b = 0; b <= 3; b++) {
                Flow x = of(new int[] {0, 1, 1, a}, new int[] {1, 2, 1, b}, new int[] {2, 3, 1, 3}, new int[] {3, 4, 1, 3});
                due("first of a row of " + a + ", " + b + ", 3 and 3", x.first(), a + b + 6);
                Flow y = of(new int[] {0, 2, 4, a}, new int[] {0, 2, 1, b}, new int[] {2, 4, 2, 1});
                due("first with " + a + " and " + b + " side by side", y.first(), Math.min(a, b) + 1);
            }
        }
        Flow longer = of(new int[] {0, 4, 4, 3}, new int[] {0, 1, 1, 0}, new int[] {1, 2, 1, 0}, new int[] {2, 3, 1, 0},
            new int[] {3, 4, 1, 2});
        due("first with more lines but less time", longer.first(), 2);
    }

    private static void firstAtMomentZero() {
        due("first of one line of time 0", alike(1, 1, 0).first(), 0);
        due("first of four lines of time 0",
            of(new int[] {0, 1, 1, 0}, new int[] {1, 2, 1, 0}, new int[] {2, 3, 1, 0}, new int[] {3, 4, 1, 0}).first(), 0);
    }

    private static void firstAtTheLastMoment() {
        Flow x = of(new int[] {0, 1, 1, 3}, new int[] {1, 2, 1, 3}, new int[] {2, 3, 1, 3}, new int[] {3, 4, 1, 3});
        due("first of the slowest row", x.first(), 12);
        for (int number = 0; number < 4; number++) {
            Flow y = new Flow();
            for (int i = 0; i < 4; i++) {
                y.add(i, i + 1, 1, i == number ? 2 : 3);
            }
            due("first of a row one quicker at " + number, y.first(), 11);
        }
    }

    private static void firstIfTheyNeverCan() {
        due("first of no line", new Flow().first(), -1);
        for (int gap = 0; gap < 4; gap++) {
            Flow x = new Flow();
            for (int i = 0; i < 4; i++) {
                x.add(i, i + 1, 4, 0);
            }
            due("first of the whole row", x.first(), 0);
            x.drop(gap);
            due("first with a gap behind place " + gap, x.first(), -1);
            x.add(gap + 1, gap, 4, 0);
            due("first with that line turned round", x.first(), -1);
        }
        Flow back = of(new int[] {4, 3, 4, 0}, new int[] {3, 2, 4, 0}, new int[] {2, 1, 4, 0}, new int[] {1, 0, 4, 0},
            new int[] {4, 0, 4, 0}, new int[] {4, 1, 4, 0}, new int[] {3, 0, 4, 0}, new int[] {2, 0, 4, 0});
        due("first of 8 lines that lead back", back.first(), -1);
    }

    private static void firstChangesNothing() {
        changesNothing(0, "first", Flow::first, -1);
        changesNothing(1, "first", Flow::first, -1);
        changesNothing(8, "first", Flow::first, 1);
    }

    // Promise 7

    private static void theWidthMayBeFiveThen() {
        for (int width = 1; width <= 4; width++) {
            Flow x = of(new int[] {0, 4, width, 0});
            for (int t = 0; t <= 12; t++) {
                due("gain(0, " + t + "), width " + width, x.gain(0, t), t + 1);
            }
        }
        Flow y = of(new int[] {0, 1, 4, 0}, new int[] {0, 1, 1, 0}, new int[] {1, 4, 4, 0});
        due("gain of width 4 that is all used", y.gain(2, 12), 13);
        due("gain of width 4 that isn't", y.gain(0, 12), 0);
    }

    private static void gainIsOnlyOfOneWider() {
        Flow x = of(new int[] {0, 1, 4, 0}, new int[] {1, 4, 1, 0});
        due("gain where 4 could come", x.gain(1, 0), 1);
        due("gain where the other is narrow", x.gain(0, 12), 0);
        Flow y = of(new int[] {0, 1, 2, 3}, new int[] {1, 4, 2, 3});
        for (int t = 0; t <= 12; t++) {
            due("gain(0, " + t + ") where both are narrow", y.gain(0, t), 0);
            due("gain(1, " + t + ") where both are narrow", y.gain(1, t), 0);
        }
    }

    private static void gainBeforeAndAtTheFirstArrival() {
        for (int time = 0; time <= 3; time++) {
            Flow x = of(new int[] {0, 4, 4, time});
            for (int t = 0; t <= 12; t++) {
                due("gain(0, " + t + "), time " + time, x.gain(0, t), t < time ? 0 : t - time + 1);
            }
        }
    }

    private static void gainWithAMomentOutOfItsRange() {
        for (int lines : new int[] {0, 1, 8}) {
            for (int t : farAnd(-1, 13, 14)) {
                for (int number : new int[] {MIN, -1, 0, lines - 1, lines, MAX}) {
                    due("gain(" + number + ", " + t + ")", alike(lines, 4, 0).gain(number, t), -1);
                }
            }
        }
        due("gain(0, 0)", alike(8, 4, 0).gain(0, 0), 1);
        due("gain(0, 12)", alike(8, 4, 0).gain(0, 12), 13);
    }

    private static void gainOfNoSuchLine() {
        for (int lines = 0; lines <= 8; lines++) {
            for (int number : farAnd(-1, lines, lines + 1, 8, 9)) {
                due("gain(" + number + ", 0) of " + lines, alike(lines, 4, 0).gain(number, 0), -1);
                due("gain(" + number + ", 12) of " + lines, alike(lines, 4, 0).gain(number, 12), -1);
            }
            for (int number = 0; number < lines; number++) {
                due("gain(" + number + ", 12) of " + lines, alike(lines, 4, 0).gain(number, 12), 13);
            }
        }
    }

    private static void gainChangesNothing() {
        for (int lines : new int[] {0, 1, 8}) {
            for (int number : new int[] {MIN, -1, lines, MAX}) {
                changesNothing(lines, "gain(" + number + ", 12)", x -> x.gain(number, 12), -1);
            }
            for (int t : new int[] {MIN, -1, 13, MAX}) {
                changesNothing(lines, "gain(0, " + t + ")", x -> x.gain(0, t), -1);
            }
        }
        changesNothing(8, "gain(7, 12)", x -> x.gain(7, 12), 12);
        changesNothing(1, "gain(0, 0)", x -> x.gain(0, 0), 0);
        Flow x = alike(1, 4, 0);
        for (int i = 0; i < 100; i++) {
            due("gain again", x.gain(0, 12), 13);
        }
        due("arrived after the gains", x.arrived(12), 52);
        due("steady after the gains", x.steady(), 4);
    }

    // Promise 8

    private static void steadyOfTheLeastAndTheGreatest() {
        due("steady of no line", new Flow().steady(), 0);
        due("steady of one narrow line", alike(1, 1, 3).steady(), 1);
        due("steady of 8 narrow lines", alike(8, 1, 3).steady(), 8);
        due("steady of 8 wide lines", alike(8, 4, 3).steady(), 32);
        due("steady of 8 wide, quick lines", alike(8, 4, 0).steady(), 32);
    }

    private static void steadyLeavesTravelTimesOut() {
        for (int time = 0; time <= 3; time++) {
            Flow x = of(new int[] {0, 1, 4, time}, new int[] {1, 2, 3, time}, new int[] {2, 3, 2, time}, new int[] {3, 4, 4, time});
            due("steady of a row of time " + time, x.steady(), 2);
        }
    }

    /** No row passes a place twice, so none takes more than 12 moments: from 11 on the growth is steady. */
    private static void steadyIsTheGrowthOnceItDoesNotChange() {
        Flow row = of(new int[] {0, 1, 2, 3}, new int[] {1, 2, 2, 3}, new int[] {2, 3, 2, 3}, new int[] {3, 4, 2, 3});
        due("growth from 10 to 11, still other", row.arrived(11) - row.arrived(10), 0);
        due("growth from 11 to 12", row.arrived(12) - row.arrived(11), 2);
        due("steady", row.steady(), 2);
        row.add(0, 4, 1, 1);
        due("growth from 10 to 11, with a quick one", row.arrived(11) - row.arrived(10), 1);
        due("growth from 11 to 12, with a quick one", row.arrived(12) - row.arrived(11), 3);
        due("steady, with a quick one", row.steady(), 3);
        Flow x = mixed(8);
        due("growth of 8 lines", x.arrived(12) - x.arrived(11), 9);
        due("steady of 8 lines", x.steady(), 9);
    }

    private static void steadyTakesNothingRoundOrBack() {
        Flow x = of(new int[] {0, 1, 1, 0}, new int[] {1, 2, 4, 0}, new int[] {2, 1, 4, 0}, new int[] {2, 4, 4, 0},
            new int[] {4, 1, 4, 0}, new int[] {4, 0, 4, 0}, new int[] {1, 0, 4, 0});
        due("steady", x.steady(), 1);
    }

    private static void steadyChangesNothing() {
        changesNothing(0, "steady", Flow::steady, 0);
        changesNothing(1, "steady", Flow::steady, 0);
        changesNothing(8, "steady", Flow::steady, 9);
    }

    private static void test(String text, Runnable body) {
        sentence = text;
        body.run();
    }

    private static void whatItIsAndTerms() {
        test("at most 512 calls: the 512th", BoundaryTest::lastPromisedCall);
        test("at most 512 calls: refused ones", BoundaryTest::fiveHundredRefusedCalls);
        test("start from place 0, wanted at place 4", BoundaryTest::goodsStartFromZeroAndAreWantedAtFour);
        test("numbered from 0 in the order added", BoundaryTest::linesAreNumberedFromZeroInOrder);
        test("from 0 to the line's width", BoundaryTest::atMostTheWidthSetsOutInOneMoment);
        test("as many moments later as its travel time", BoundaryTest::goodsArriveAsManyMomentsLaterAsTheTravelTime);
        test("goods may wait", BoundaryTest::goodsMayWait);
        test("up to and with the same moment", BoundaryTest::goodsMaySetOutInTheMomentInWhichTheyArrive);
        test("at most those that have arrived", BoundaryTest::nothingSetsOutThatHasNotArrived);
        test("at place 4 none sets out", BoundaryTest::atPlaceFourNoneSetsOut);
        test("travel time 0, one after the other in one moment", BoundaryTest::linesOfTimeZeroInOneMoment);
        test("not round in a ring for nothing", BoundaryTest::notRoundInARingForNothing);
        test("the yield, up to and with the moment", BoundaryTest::theYieldCountsUpToAndWithTheMoment);
    }

    private static void promisesOneToThree() {
        test("1: no line", BoundaryTest::newObjectHasNoLine);
        test("1: no line, whatever another object holds", BoundaryTest::newObjectHasNoLineOfAnother);
        test("2: the number of lines then", BoundaryTest::addAnswersTheNumberOfLines);
        test("2: -1 if there are 8", BoundaryTest::addIsRefusedIfThereAreEight);
        test("2: -1 if from is not from 0 to 4", BoundaryTest::addWithAWrongFrom);
        test("2: -1 if to is not from 0 to 4", BoundaryTest::addWithAWrongTo);
        test("2: -1 if they are the same", BoundaryTest::addFromAPlaceToItself);
        test("2: -1 if width is not from 1 to 4", BoundaryTest::addWithAWrongWidth);
        test("2: -1 if time is not from 0 to 3", BoundaryTest::addWithAWrongTime);
        test("2: every near value", BoundaryTest::addOfEveryNearValue);
        test("2: -1, and changes nothing", BoundaryTest::refusedAddChangesNothing);
        test("3: the number of lines then", BoundaryTest::dropAnswersTheNumberOfLines);
        test("3: takes the line with the number out", BoundaryTest::dropTakesTheLineWithTheNumberOut);
        test("3: the ones behind move one place back", BoundaryTest::theOnesBehindMoveOnePlaceBack);
        test("3: a new line comes behind the ones left", BoundaryTest::aNewLineComesBehindTheOnesLeft);
        test("3: -1 if there is none", BoundaryTest::dropIsRefusedIfThereIsNone);
        test("3: a refused drop changes nothing", BoundaryTest::refusedDropChangesNothing);
    }

    private static void promisesFourToSix() {
        test("4: -1 if t is out of its range", BoundaryTest::arrivedOutOfItsRange);
        test("4: from 0 to 12", BoundaryTest::arrivedOfTheLeastAndTheGreatest);
        test("4: changes nothing", BoundaryTest::arrivedChangesNothing);
        test("5: an amount of 0 or less", BoundaryTest::quickestOfNothingOrLess);
        test("5: the first moment with at least amount", BoundaryTest::quickestIsTheFirstMomentWithTheAmount);
        test("5: -1 if there is none from 0 to 12", BoundaryTest::quickestIfThereIsNoSuchMoment);
        test("5: changes nothing", BoundaryTest::quickestChangesNothing);
        test("6: the least sum of travel times", BoundaryTest::firstIsTheLeastSumOfTravelTimes);
        test("6: the earliest, 0", BoundaryTest::firstAtMomentZero);
        test("6: the latest, 12", BoundaryTest::firstAtTheLastMoment);
        test("6: -1 if they never can", BoundaryTest::firstIfTheyNeverCan);
        test("6: changes nothing", BoundaryTest::firstChangesNothing);
    }

    private static void promisesSevenAndEight() {
        test("7: the width may be 5 then", BoundaryTest::theWidthMayBeFiveThen);
        test("7: one wider", BoundaryTest::gainIsOnlyOfOneWider);
        test("7: the yield for the moment t", BoundaryTest::gainBeforeAndAtTheFirstArrival);
        test("7: -1 if t is out of its range", BoundaryTest::gainWithAMomentOutOfItsRange);
        test("7: -1 if there is no such line", BoundaryTest::gainOfNoSuchLine);
        test("7: changes nothing", BoundaryTest::gainChangesNothing);
        test("8: none and the greatest", BoundaryTest::steadyOfTheLeastAndTheGreatest);
        test("8: travel times are left out", BoundaryTest::steadyLeavesTravelTimesOut);
        test("8: once it does not change any more", BoundaryTest::steadyIsTheGrowthOnceItDoesNotChange);
        test("8: from place 0 to place 4", BoundaryTest::steadyTakesNothingRoundOrBack);
        test("8: changes nothing", BoundaryTest::steadyChangesNothing);
    }

    public static void main(String[] args) {
        whatItIsAndTerms();
        promisesOneToThree();
        promisesFourToSix();
        promisesSevenAndEight();
        System.out.println(checked + " answers looked at, " + wrong + " not as due");
        if (wrong != 0) {
            System.exit(1);
        }
    }
}
