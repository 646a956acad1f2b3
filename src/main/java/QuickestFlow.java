/**
 * Goods that are sent over lines with widths and travel times, and how much can arrive by when.
 *
 * No sending is ever built. The greatest flow equals the least cut, and here the cuts are few enough
 * to try them all: give every place a moment from which on it is cut off from place 4 (see leastCut).
 */
public final class QuickestFlow {
    private static final int START = 0;
    private static final int GOAL = 4;
    private static final int PLACES = 5;
    private static final int MOST_LINES = 8;
    private static final int MOST_WIDTH = 4;
    private static final int MOST_TIME = 3;
    private static final int LAST_MOMENT = 12;
    private static final int REFUSED = -1;
    private static final int NO_LINE = -1;
    private static final int ABOVE_ALL_CUTS = 1000000;

    private final int[] lineFrom = new int[MOST_LINES];
    private final int[] lineTo = new int[MOST_LINES];
    private final int[] lineWidth = new int[MOST_LINES];
    private final int[] lineTime = new int[MOST_LINES];
    private int lines;

    /** For each place the first moment at which it lies on the start's side of the cut being tried. */
    private final int[] startSide = new int[PLACES];

    public QuickestFlow() {
        lines = 0;
    }

    public int add(int from, int to, int width, int time) {
        if (lines >= MOST_LINES || !isPlace(from) || !isPlace(to) || from == to) {
            return REFUSED;
        }
        if (width < 1 || width > MOST_WIDTH || time < 0 || time > MOST_TIME) {
            return REFUSED;
        }
        lineFrom[lines] = from;
        lineTo[lines] = to;
        lineWidth[lines] = width;
        lineTime[lines] = time;
        lines++;
        return lines;
    }

    public int drop(int number) {
        if (!isLine(number)) {
            return REFUSED;
        }
        for (int i = number; i < lines - 1; i++) {
            lineFrom[i] = lineFrom[i + 1];
            lineTo[i] = lineTo[i + 1];
            lineWidth[i] = lineWidth[i + 1];
            lineTime[i] = lineTime[i + 1];
        }
        lines--;
        return lines;
    }

    public int arrived(int t) {
        if (!isMoment(t)) {
            return REFUSED;
        }
        return leastCut(t, NO_LINE, true);
    }

    public int quickest(int amount) {
        return firstMomentWith(amount);
    }

    /** A shortest row passes each place once, so it takes at most 4 * 3 = 12 moments: none is missed. */
    public int first() {
        return firstMomentWith(1);
    }

    public int gain(int number, int t) {
        if (!isLine(number) || !isMoment(t)) {
            return REFUSED;
        }
        int wider = leastCut(t, number, true);
        int asItIs = leastCut(t, NO_LINE, true);
        return wider - asItIs;
    }

    /** With travel times left out, what arrives in moment 0 alone is what one moment can carry. */
    public int steady() {
        return leastCut(0, NO_LINE, false);
    }

    private boolean isPlace(int place) {
        return place >= 0 && place < PLACES;
    }

    private boolean isLine(int number) {
        return number >= 0 && number < lines;
    }

    private boolean isMoment(int t) {
        return t >= 0 && t <= LAST_MOMENT;
    }

    private int firstMomentWith(int amount) {
        for (int t = 0; t <= LAST_MOMENT; t++) {
            int yielded = leastCut(t, NO_LINE, true);
            if (yielded >= amount) {
                return t;
            }
        }
        return REFUSED;
    }

    /**
     * The yield for the moment t, as the least cut of the network whose nodes are places at moments.
     *
     * Waiting has no limit, so a cut that is not endless keeps a place on the start's side from some
     * moment on for good: one moment per place tells the cut. Place 0 is on that side from moment 0
     * on, place 4 never up to t; only the three places between are free, each from 0 to t + 1.
     *
     * The line with the number wider counts as one wider; if timed is false, all travel times are 0.
     */
    private int leastCut(int t, int wider, boolean timed) {
        int never = t + 1;
        int least = ABOVE_ALL_CUTS;
        startSide[START] = 0;
        startSide[GOAL] = never;
        for (int one = 0; one <= never; one++) {
            startSide[1] = one;
            for (int two = 0; two <= never; two++) {
                startSide[2] = two;
                for (int three = 0; three <= never; three++) {
                    startSide[3] = three;
                    int cut = cutSize(wider, timed);
                    if (cut < least) {
                        least = cut;
                    }
                }
            }
        }
        return least;
    }

    /**
     * Lines out of place 4 and into place 0 never count here, since those have the latest and the
     * earliest moment of all: so they need no rule of their own.
     */
    private int cutSize(int wider, boolean timed) {
        int size = 0;
        for (int i = 0; i < lines; i++) {
            int time = timed ? lineTime[i] : 0;
            int width = i == wider ? lineWidth[i] + 1 : lineWidth[i];
            int crossings = startSide[lineTo[i]] - time - startSide[lineFrom[i]];
            if (crossings > 0) {
                size += width * crossings;
            }
        }
        return size;
    }
}
