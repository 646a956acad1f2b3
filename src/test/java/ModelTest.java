import java.util.ArrayList;
import java.util.Arrays;
import java.util.List;

/**
 * Long runs of mixed calls against a model that takes the document's terms at their word: it builds
 * the sendings, as a greatest flow over places at moments, where the class looks for a least cut.
 */
public final class ModelTest {
    private static final int RUNS = 60;
    private static final int CALLS = 512;
    private static int wrong = 0;
    private static long seed = 20240229L;

    /** A fixed row of numbers, so that a fault is found again at the same call. */
    private static int pick(int low, int high) {
        seed = seed * 6364136223846793005L + 1442695040888963407L;
        return low + (int) ((seed >>> 33) % (high - low + 1));
    }

    private static final class Model {
        private final List<int[]> lines = new ArrayList<>();

        int add(int from, int to, int width, int time) {
            boolean good = lines.size() < 8 && from >= 0 && from <= 4 && to >= 0 && to <= 4 && from != to
                && width >= 1 && width <= 4 && time >= 0 && time <= 3;
            if (!good) {
                return -1;
            }
            lines.add(new int[] {from, to, width, time});
            return lines.size();
        }

        int drop(int number) {
            if (number < 0 || number >= lines.size()) {
                return -1;
            }
            lines.remove(number);
            return lines.size();
        }

        int arrived(int t) {
            return t < 0 || t > 12 ? -1 : yieldFor(t);
        }

        int quickest(int amount) {
            for (int t = 0; t <= 12; t++) {
                if (yieldFor(t) >= amount) {
                    return t;
                }
            }
            return -1;
        }

        int first() {
            int[] reach = new int[5];
            Arrays.fill(reach, 1000);
            reach[0] = 0;
            for (int round = 0; round < 5; round++) {
                for (int[] line : lines) {
                    reach[line[1]] = Math.min(reach[line[1]], reach[line[0]] + line[3]);
                }
            }
            return reach[4] >= 1000 ? -1 : reach[4];
        }

        int gain(int number, int t) {
            if (number < 0 || number >= lines.size() || t < 0 || t > 12) {
                return -1;
            }
            int before = yieldFor(t);
            lines.get(number)[2]++;
            int after = yieldFor(t);
            lines.get(number)[2]--;
            return after - before;
        }

        int steady() {
            int[][] room = new int[5][5];
            for (int[] line : lines) {
                room[line[0]][line[1]] += line[2];
            }
            return greatestFlow(room, 0, 4);
        }

        int yieldFor(int t) {
            int moments = t + 1;
            int[][] room = new int[5 * moments][5 * moments];
            for (int place = 0; place < 5; place++) {
                for (int m = 0; m < t; m++) {
                    room[place * moments + m][place * moments + m + 1] = 1000000;
                }
            }
            for (int[] line : lines) {
                for (int m = 0; m + line[3] <= t && line[0] != 4; m++) {
                    room[line[0] * moments + m][line[1] * moments + m + line[3]] += line[2];
                }
            }
            return greatestFlow(room, 0, 4 * moments + t);
        }

        private static int greatestFlow(int[][] room, int start, int goal) {
            int flow = 0;
            int[] before = new int[room.length];
            while (findRow(room, start, goal, before)) {
                int most = Integer.MAX_VALUE;
                for (int v = goal; v != start; v = before[v]) {
                    most = Math.min(most, room[before[v]][v]);
                }
                for (int v = goal; v != start; v = before[v]) {
                    room[before[v]][v] -= most;
                    room[v][before[v]] += most;
                }
                flow += most;
            }
            return flow;
        }

        private static boolean findRow(int[][] room, int start, int goal, int[] before) {
            Arrays.fill(before, -1);
            before[start] = start;
            int[] queue = new int[room.length];
            int tail = 1;
            queue[0] = start;
            for (int head = 0; head < tail && before[goal] < 0; head++) {
                int u = queue[head];
                for (int v = 0; v < room.length; v++) {
                    if (before[v] < 0 && room[u][v] > 0) {
                        before[v] = u;
                        queue[tail++] = v;
                    }
                }
            }
            return before[goal] >= 0;
        }
    }

    private static void due(int run, int call, String what, int got, int want) {
        if (got != want) {
            wrong++;
            System.out.println("run " + run + ", call " + call + ": " + what + " answered " + got + ", due is " + want);
        }
    }

    /** The number of lines swings between few and many: spans with more adds and spans with more drops. */
    private static void oneCall(int run, int call, QuickestFlow x, Model model) {
        boolean growing = call / 32 % 2 == run % 2;
        int kind = pick(0, 99);
        if (kind < (growing ? 30 : 14)) {
            oneAdd(run, call, x, model);
        } else if (kind < 42) {
            int number = pick(-1, 8);
            due(run, call, "drop(" + number + ")", x.drop(number), model.drop(number));
        } else if (kind < 60) {
            int t = pick(-1, 13);
            due(run, call, "arrived(" + t + ")", x.arrived(t), model.arrived(t));
        } else if (kind < 70) {
            int amount = pickAmount(model);
            due(run, call, "quickest(" + amount + ")", x.quickest(amount), model.quickest(amount));
        } else if (kind < 78) {
            due(run, call, "first()", x.first(), model.first());
        } else if (kind < 92) {
            int number = pick(-1, 8);
            int t = pick(-1, 13);
            due(run, call, "gain(" + number + ", " + t + ")", x.gain(number, t), model.gain(number, t));
        } else {
            due(run, call, "steady()", x.steady(), model.steady());
        }
    }

    private static void oneAdd(int run, int call, QuickestFlow x, Model model) {
        int from = pick(0, 15) == 0 ? pick(-2, 6) : pick(0, 3);
        int to = pick(0, 15) == 0 ? pick(-2, 6) : pick(1, 4);
        int width = pick(0, 15) == 0 ? pick(-1, 6) : pick(1, 4);
        int time = pick(0, 15) == 0 ? pick(-2, 5) : pick(0, 3);
        String what = "add(" + from + ", " + to + ", " + width + ", " + time + ")";
        due(run, call, what, x.add(from, to, width, time), model.add(from, to, width, time));
    }

    /** Mostly just what some moment yields, or one less or more: there the answers of quickest change. */
    private static int pickAmount(Model model) {
        return pick(0, 3) == 0 ? pick(-2, 420) : model.yieldFor(pick(0, 12)) + pick(-1, 1);
    }

    /** Both halves of promise 8 say the same: checked far beyond the moments that arrived is asked for. */
    private static void steadyBothWays(int run, Model model) {
        int growth = model.yieldFor(31) - model.yieldFor(30);
        due(run, CALLS, "growth from 30 to 31", growth, model.steady());
    }

    public static void main(String[] args) {
        for (int run = 1; run <= RUNS; run++) {
            QuickestFlow x = new QuickestFlow();
            Model model = new Model();
            for (int call = 1; call <= CALLS; call++) {
                oneCall(run, call, x, model);
            }
            steadyBothWays(run, model);
        }
        System.out.println(wrong == 0 ? "all answers are as due" : wrong + " answers are not as due");
        if (wrong != 0) {
            System.exit(1);
        }
    }
}
