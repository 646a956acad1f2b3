import java.util.Arrays;

/**
 * Small networks whose sendings are all tried, one by one, by the words of the document's Terms: neither
 * a greatest flow nor a least cut is taken for granted here.
 */
public final class SendingTest {
    private static final int NETWORKS = 400;
    private static final int LAST = 3;
    private static int wrong = 0;
    private static int checked = 0;
    private static long seed = 20261116L;

    /** A fixed row of numbers, so that a fault is found again in the same network. */
    private static int pick(int low, int high) {
        seed = seed * 6364136223846793005L + 1442695040888963407L;
        return low + (int) ((seed >>> 33) % (high - low + 1));
    }

    private static void due(String what, int got, int want) {
        checked++;
        if (got != want) {
            wrong++;
            System.out.println(what + " answered " + got + ", due is " + want);
        }
    }

    /** The greatest number that has arrived at place 4 up to and with the moment last, of all sendings. */
    private static final class Sendings {
        private final int[][] lines;
        private final int last;
        private final int[][] sent;
        private int most = 0;

        Sendings(int[][] lines, int last) {
            this.lines = lines;
            this.last = last;
            this.sent = new int[last + 1][lines.length];
        }

        int greatest() {
            choose(0, 0);
            return most;
        }

        private void choose(int moment, int line) {
            if (line < lines.length) {
                for (int goods = 0; goods <= lines[line][2]; goods++) {
                    sent[moment][line] = goods;
                    choose(moment, line + 1);
                }
                sent[moment][line] = 0;
            } else if (keepsTheTerms(moment)) {
                if (moment < last) {
                    choose(moment + 1, 0);
                } else {
                    most = Math.max(most, arrivedAt(4, last));
                }
            }
        }

        private int arrivedAt(int place, int moment) {
            int sum = 0;
            for (int i = 0; i < lines.length; i++) {
                for (int m = 0; lines[i][1] == place && m + lines[i][3] <= moment; m++) {
                    sum += sent[m][i];
                }
            }
            return sum;
        }

        private int setOutFrom(int place, int first, int moment) {
            int sum = 0;
            for (int i = 0; i < lines.length; i++) {
                for (int m = first; lines[i][0] == place && m <= moment; m++) {
                    sum += sent[m][i];
                }
            }
            return sum;
        }

        private boolean keepsTheTerms(int moment) {
            for (int place = 1; place <= 4; place++) {
                int bound = place == 4 ? 0 : arrivedAt(place, moment);
                if (setOutFrom(place, 0, moment) > bound) {
                    return false;
                }
            }
            return comesFromPlaceZero(moment);
        }

        /** Goods that set out now were there before the lines of travel time 0, or came by a row of them. */
        private boolean comesFromPlaceZero(int moment) {
            boolean[] reached = new boolean[5];
            reached[0] = true;
            for (int place = 1; place <= 3; place++) {
                int there = arrivedAt(place, moment) - arrivedInNoTime(place, moment);
                reached[place] = there > setOutFrom(place, 0, moment - 1);
            }
            for (int round = 0; round < 5; round++) {
                for (int i = 0; i < lines.length; i++) {
                    boolean gone = lines[i][3] == 0 && sent[moment][i] > 0;
                    reached[lines[i][1]] |= gone && reached[lines[i][0]];
                }
            }
            for (int place = 1; place <= 3; place++) {
                if (setOutFrom(place, moment, moment) > 0 && !reached[place]) {
                    return false;
                }
            }
            return true;
        }

        private int arrivedInNoTime(int place, int moment) {
            int sum = 0;
            for (int i = 0; i < lines.length; i++) {
                if (lines[i][1] == place && lines[i][3] == 0) {
                    sum += sent[moment][i];
                }
            }
            return sum;
        }
    }

    private static void compare(int[][] lines) {
        String name = Arrays.deepToString(lines);
        QuickestFlow x = new QuickestFlow();
        for (int[] line : lines) {
            x.add(line[0], line[1], line[2], line[3]);
        }
        int before = 0;
        for (int t = 0; t <= LAST; t++) {
            int greatest = new Sendings(lines, t).greatest();
            due(name + " arrived(" + t + ")", x.arrived(t), greatest);
            if (greatest > before) {
                due(name + " quickest(" + greatest + ")", x.quickest(greatest), t);
                due(name + " quickest(" + (before + 1) + ")", x.quickest(before + 1), t);
            }
            if (greatest > 0 && before == 0) {
                due(name + " first()", x.first(), t);
            }
            before = greatest;
        }
        int number = pick(0, lines.length - 1);
        lines[number][2]++;
        int wider = new Sendings(lines, LAST).greatest();
        due(name + " gain(" + number + ", " + LAST + ")", x.gain(number, LAST), wider - before);
    }

    /** Four lines are narrow ones, since the number of sendings grows with every width. */
    private static int[][] pickLines() {
        int[][] lines = new int[pick(2, 4)][];
        int widest = lines.length == 4 ? 1 : 2;
        for (int i = 0; i < lines.length; i++) {
            int from = pick(0, 4);
            int to = (from + pick(1, 4)) % 5;
            lines[i] = new int[] {from, to, pick(1, widest), pick(0, 2)};
        }
        lines[0][0] = 0;
        lines[0][1] = pick(1, 4);
        lines[1][1] = 4;
        lines[1][0] = pick(0, 3);
        return lines;
    }

    public static void main(String[] args) {
        compare(new int[][] {{0, 1, 2, 0}, {1, 4, 1, 1}, {1, 2, 1, 0}, {2, 4, 1, 2}});
        compare(new int[][] {{0, 1, 1, 0}, {1, 2, 1, 0}, {2, 1, 1, 0}, {2, 4, 2, 0}});
        compare(new int[][] {{1, 2, 1, 0}, {2, 1, 2, 0}, {2, 4, 2, 0}, {0, 3, 1, 0}});
        compare(new int[][] {{0, 4, 1, 0}, {4, 1, 2, 0}, {1, 4, 2, 0}, {4, 0, 1, 0}});
        for (int i = 0; i < NETWORKS; i++) {
            compare(pickLines());
        }
        System.out.println(checked + " answers looked at, " + wrong + " not as due");
        if (wrong != 0) {
            System.exit(1);
        }
    }
}
