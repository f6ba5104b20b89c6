/**
 * Every argument of every method at the ends of its range, one beyond them and far beyond; then every pair of errors
 * that can apply at once, of which the document's order tells which is returned.
 */
public final class RangeTest {
    private static final int UNKNOWN = -1;
    private static final int OUTSIDE = -2;
    private static final int STATE = -3;
    private static final int FULL = -4;
    private static final int NO = -5;
    private static final long GONE = -4000000000000000000L;
    /** Other integers turn up as in-range ones if the program adds, doubles, shifts or masks before it looks. */
    private static final int[] FAR = {Integer.MIN_VALUE, Integer.MIN_VALUE + 1, -(1 << 30), -256, -100, 100, 256,
        1 << 16, 1 << 30, (1 << 30) + 1, (1 << 31) - 256, Integer.MAX_VALUE - 1, Integer.MAX_VALUE};

    public static void main(String[] args) {
        rangesOfTheFrame();
        rangesOfQuestions();
        orderWithoutFrame();
        orderInFullFrame();
        orderOfQuestions();
        looseFrames();
        framesWithoutFactors();
        Check.end("RangeTest");
    }

    private static long ask(FrameCollapse frame, String name, int... arguments) {
        return Calls.send(frame, Calls.named(name), arguments);
    }

    private static void due(String frameName, FrameCollapse frame, String name, long want, int... arguments) {
        int method = Calls.named(name);
        long wanted = Calls.answersLong(method) && want < 0 ? GONE + want : want;
        Check.due(frameName + ": " + Calls.text(method, arguments), Calls.send(frame, method, arguments), wanted);
    }

    // ---- frames

    /** A beam of two bars between fixed nodes; both cases have limit factors; both images are kept. */
    private static FrameCollapse beam() {
        FrameCollapse frame = new FrameCollapse();
        frame.node(0, 0, 2);
        frame.node(2, 0, 0);
        frame.node(4, 0, 2);
        frame.bar(0, 1, 3);
        frame.bar(1, 2, 3);
        frame.load(1, 1, 0, 1);
        frame.load(2, 1, 0, 2);
        frame.load(2, 2, 0, 1);
        frame.image(0);
        frame.image(1);
        return frame;
    }

    /** The beam and a node that nothing holds. */
    private static FrameCollapse loose() {
        FrameCollapse frame = beam();
        frame.node(9, 9, 0);
        return frame;
    }

    /** All numbers are factors of case 1. */
    private static FrameCollapse unloaded() {
        FrameCollapse frame = beam();
        frame.load(1, 1, 5, 0);
        return frame;
    }

    /** No number is a factor of case 1. */
    private static FrameCollapse overloaded() {
        FrameCollapse frame = unloaded();
        frame.strengthen(0, 1);
        frame.strengthen(1, 1);
        frame.load(0, 1, 0, 5);
        return frame;
    }

    /** Seven nodes; six bars along the lower row of nodes and between the columns. */
    private static FrameCollapse full() {
        FrameCollapse frame = new FrameCollapse();
        for (int n = 0; n < 4; n++) {
            frame.node(2 * n, 0, 2);
        }
        for (int n = 0; n < 3; n++) {
            frame.node(2 * n, 2, 0);
        }
        for (int n = 0; n < 3; n++) {
            frame.bar(n, n + 1, 2);
            frame.bar(n, n + 4, 2);
        }
        return frame;
    }

    // ---- ranges

    /** Tries one argument, the others being as given. */
    private static void range(String name, int[] given, int at, int least, int greatest, int code) {
        int method = Calls.named(name);
        long error = Calls.answersLong(method) ? GONE + code : code;
        for (int value = least; value <= greatest; value++) {
            refuses(method, given, at, value, error, 0);
        }
        refuses(method, given, at, least - 1, error, 1);
        refuses(method, given, at, greatest + 1, error, 1);
        for (int value : FAR) {
            refuses(method, given, at, value, error, 1);
        }
    }

    private static void refuses(int method, int[] given, int at, int value, long error, int want) {
        int[] a = given.clone();
        a[at] = value;
        long answer = Calls.send(beam(), method, a);
        Check.due(Calls.text(method, a) + " answered " + error, answer == error ? 1 : 0, want);
    }

    private static int[] given(int... arguments) {
        return arguments;
    }

    private static void rangesOfTheFrame() {
        range("node", given(5, 5, 0), 0, 0, 9, OUTSIDE);
        range("node", given(5, 5, 0), 1, 0, 9, OUTSIDE);
        range("node", given(5, 5, 0), 2, 0, 3, OUTSIDE);
        range("hold", given(1, 1), 0, 0, 2, UNKNOWN);
        range("hold", given(1, 1), 1, 0, 3, OUTSIDE);
        range("bar", given(0, 2, 5), 0, 0, 2, UNKNOWN);
        range("bar", given(0, 2, 5), 1, 0, 2, UNKNOWN);
        range("bar", given(0, 2, 5), 2, 1, 12, OUTSIDE);
        range("lift", given(0), 0, 0, 1, UNKNOWN);
        range("strengthen", given(0, 5), 0, 0, 1, UNKNOWN);
        range("strengthen", given(0, 5), 1, 1, 12, OUTSIDE);
        range("load", given(1, 1, 0, 0), 0, 0, 2, OUTSIDE);
        range("load", given(1, 1, 0, 0), 1, 0, 2, UNKNOWN);
        range("load", given(1, 1, 0, 0), 2, -5, 5, OUTSIDE);
        range("load", given(1, 1, 0, 0), 3, -5, 5, OUTSIDE);
        range("ofNode", given(1, 0), 0, 0, 2, UNKNOWN);
        range("ofNode", given(1, 0), 1, 0, 8, OUTSIDE);
        range("ofBar", given(1, 0), 0, 0, 1, UNKNOWN);
        range("ofBar", given(1, 0), 1, 0, 4, OUTSIDE);
        range("count", given(0), 0, 0, 6, OUTSIDE);
        range("image", given(0), 0, 0, 1, OUTSIDE);
        range("restore", given(0), 0, 0, 1, OUTSIDE);
    }

    private static void rangesOfQuestions() {
        range("mechanism", given(0), 0, 0, 2, UNKNOWN);
        range("twist", given(1, 0, 0), 0, 0, 2, UNKNOWN);
        range("twist", given(1, 0, 0), 1, 0, 3, UNKNOWN);
        range("twist", given(1, 0, 0), 2, 0, 1, OUTSIDE);
        range("bound", given(1, 1, 0), 0, 0, 2, UNKNOWN);
        range("bound", given(1, 1, 0), 1, 1, 2, OUTSIDE);
        range("bound", given(1, 1, 0), 2, 0, 3, OUTSIDE);
        range("limits", given(1), 0, 1, 2, OUTSIDE);
        range("factor", given(1, 0, 0), 0, 1, 2, OUTSIDE);
        range("factor", given(1, 0, 0), 1, 0, 1, OUTSIDE);
        range("factor", given(1, 0, 0), 2, 0, 1, OUTSIDE);
        range("near", given(1, 0), 0, 1, 2, OUTSIDE);
        range("near", given(1, 0), 1, 0, 1, OUTSIDE);
        for (int at = 0; at < 2; at++) {
            range("bears", given(1, 1, 1), at, -99, 99, OUTSIDE);
        }
        range("bears", given(1, 1, 1), 2, 1, 99, OUTSIDE);
        range("moment", given(1, 0, 0, 0), 0, 1, 2, OUTSIDE);
        range("moment", given(1, 0, 0, 0), 1, 0, 1, OUTSIDE);
        range("moment", given(1, 0, 0, 0), 2, 0, 3, UNKNOWN);
        range("moment", given(1, 0, 0, 0), 3, 0, 3, OUTSIDE);
        for (String name : new String[] {"yields", "binding"}) {
            int[] given = name.equals("yields") ? given(1, 0) : given(1, 0, 0);
            range(name, given, 0, 1, 2, OUTSIDE);
            range(name, given, 1, 0, 1, OUTSIDE);
        }
        range("binding", given(1, 0, 0), 2, 0, 1, OUTSIDE);
        range("spare", given(1, 0), 0, 1, 2, OUTSIDE);
        range("spare", given(1, 0), 1, 0, 1, UNKNOWN);
        range("weakest", given(1), 0, 1, 2, OUTSIDE);
    }

    // ---- order of errors

    private static void orderWithoutFrame() {
        FrameCollapse frame = new FrameCollapse();
        String name = "empty";
        due(name, frame, "hold", UNKNOWN, 0, 4);
        due(name, frame, "bar", UNKNOWN, 0, 0, 0);
        due(name, frame, "lift", UNKNOWN, 0);
        due(name, frame, "strengthen", UNKNOWN, 0, 13);
        due(name, frame, "load", UNKNOWN, 3, 0, 6, 6);
        due(name, frame, "ofNode", UNKNOWN, 0, 9);
        due(name, frame, "ofBar", UNKNOWN, 0, 5);
        due(name, frame, "twist", OUTSIDE, 0, 0, 2);
        due(name, frame, "twist", UNKNOWN, 0, 0, 1);
        due(name, frame, "bound", OUTSIDE, 0, 0, 0);
        due(name, frame, "bound", OUTSIDE, 0, 1, 4);
        due(name, frame, "bound", UNKNOWN, 0, 1, 3);
        due(name, frame, "moment", UNKNOWN, 0, 2, 0, 4);
        due(name, frame, "spare", UNKNOWN, 0, 0);
        due(name, frame, "restore", OUTSIDE, 2);
        due(name, frame, "restore", NO, 1);
    }

    private static void orderInFullFrame() {
        FrameCollapse frame = full();
        String name = "full";
        due(name, frame, "node", OUTSIDE, 0, 0, 4);
        due(name, frame, "node", OUTSIDE, 10, 9, 0);
        due(name, frame, "node", NO, 0, 0, 0);
        due(name, frame, "node", FULL, 9, 9, 0);
        due(name, frame, "bar", UNKNOWN, 0, 7, 13);
        due(name, frame, "bar", UNKNOWN, 7, 0, 1);
        due(name, frame, "bar", OUTSIDE, 0, 1, 13);
        due(name, frame, "bar", OUTSIDE, 0, 1, 0);
        due(name, frame, "bar", OUTSIDE, 1, 0, 1);
        due(name, frame, "bar", OUTSIDE, 0, 5, 1);
        due(name, frame, "bar", NO, 0, 1, 1);
        due(name, frame, "bar", FULL, 4, 5, 1);
        due("a beam", beam(), "node", OUTSIDE, 0, 0, 4);
        due("a beam", beam(), "node", NO, 0, 0, 3);
        due("a beam", beam(), "bar", OUTSIDE, 0, 1, 13);
        due("a beam", beam(), "bar", NO, 0, 1, 12);
        due("a beam", beam(), "load", UNKNOWN, -1, 3, 0, 0);
        due("a beam", beam(), "load", UNKNOWN, 0, 3, -6, 0);
        due("a beam", beam(), "load", UNKNOWN, 0, -1, 0, 6);
    }

    private static void orderOfQuestions() {
        FrameCollapse frame = beam();
        String name = "a beam";
        due(name, frame, "hold", UNKNOWN, 3, 4);
        due(name, frame, "strengthen", UNKNOWN, 2, 0);
        due(name, frame, "ofNode", UNKNOWN, 3, 9);
        due(name, frame, "ofBar", UNKNOWN, 2, 5);
        due(name, frame, "twist", OUTSIDE, 3, 0, 2);
        due(name, frame, "twist", OUTSIDE, 0, 4, -1);
        due(name, frame, "bound", OUTSIDE, 3, 0, 0);
        due(name, frame, "bound", OUTSIDE, 3, 1, 4);
        due(name, frame, "moment", UNKNOWN, 0, 0, 4, 0);
        due(name, frame, "moment", UNKNOWN, 1, 2, 4, 0);
        due(name, frame, "moment", UNKNOWN, 1, 0, 4, 4);
        due(name, frame, "spare", UNKNOWN, 3, 2);
        // mechanism 0 of the beam has no work in any case
        due(name, frame, "bound", OUTSIDE, 0, 3, 0);
        due(name, frame, "bound", OUTSIDE, 0, 1, -1);
        due(name, frame, "bound", NO, 0, 1, 0);
    }

    private static void looseFrames() {
        FrameCollapse frame = loose();
        String name = "loose";
        int[][] questions = {{Calls.named("mechanism"), 0}, {Calls.named("mechanism"), -1},
            {Calls.named("mechanism"), 99}, {Calls.named("twist"), 0, 0, 0}, {Calls.named("twist"), 99, 0, 1},
            {Calls.named("twist"), 0, 99, 1}, {Calls.named("bound"), 0, 1, 3}, {Calls.named("bound"), -1, 2, 0},
            {Calls.named("limits"), 1}, {Calls.named("factor"), 1, 0, 0}, {Calls.named("near"), 2, 1},
            {Calls.named("bears"), 0, 0, 1}, {Calls.named("moment"), 1, 0, 0, 0}, {Calls.named("moment"), 2, 1, 3, 3},
            {Calls.named("yields"), 1, 0}, {Calls.named("binding"), 1, 0, 1}, {Calls.named("spare"), 1, 1},
            {Calls.named("weakest"), 2}, {Calls.named("count"), 5}};
        for (int[] q : questions) {
            due(name, frame, Calls.NAMES[q[0]], STATE, java.util.Arrays.copyOfRange(q, 1, q.length));
        }
        due(name, frame, "twist", OUTSIDE, 99, 99, 2);
        due(name, frame, "bound", OUTSIDE, 99, 3, 0);
        due(name, frame, "bound", OUTSIDE, 99, 1, -1);
        due(name, frame, "limits", OUTSIDE, 0);
        due(name, frame, "factor", OUTSIDE, 0, 0, 0);
        due(name, frame, "factor", OUTSIDE, 1, -1, 0);
        due(name, frame, "factor", OUTSIDE, 1, 0, 2);
        due(name, frame, "near", OUTSIDE, 3, 0);
        due(name, frame, "near", OUTSIDE, 1, 2);
        due(name, frame, "bears", OUTSIDE, 100, 0, 1);
        due(name, frame, "bears", OUTSIDE, 0, -100, 1);
        due(name, frame, "bears", OUTSIDE, 0, 0, 0);
        due(name, frame, "moment", UNKNOWN, 1, 0, 4, 0);
        due(name, frame, "moment", UNKNOWN, 0, 0, -1, 0);
        due(name, frame, "moment", OUTSIDE, 0, 0, 0, 0);
        due(name, frame, "moment", OUTSIDE, 1, 2, 0, 0);
        due(name, frame, "moment", OUTSIDE, 1, 0, 0, 4);
        due(name, frame, "yields", OUTSIDE, 0, 0);
        due(name, frame, "yields", OUTSIDE, 1, 2);
        due(name, frame, "binding", OUTSIDE, 3, 0, 0);
        due(name, frame, "binding", OUTSIDE, 1, -1, 0);
        due(name, frame, "binding", OUTSIDE, 1, 0, 2);
        due(name, frame, "spare", UNKNOWN, 1, 2);
        due(name, frame, "spare", UNKNOWN, 3, -1);
        due(name, frame, "spare", OUTSIDE, 3, 0);
        due(name, frame, "weakest", OUTSIDE, 0);
        due(name, frame, "count", OUTSIDE, 7);
        due(name, frame, "image", OUTSIDE, 2);
        due(name, frame, "restore", OUTSIDE, -1);
        due(name, frame, "count", 1, 2);
        due(name, frame, "restore", 1, 0);
        due("restored", frame, "count", 0, 2);
        due("restored", frame, "limits", 0, 1);
    }

    /** NO comes after all other errors. */
    private static void framesWithoutFactors() {
        FrameCollapse[] frames = {unloaded(), overloaded()};
        for (int k = 0; k < 2; k++) {
            FrameCollapse frame = frames[k];
            String name = k == 0 ? "all numbers are factors" : "none is a factor";
            due(name, frame, "limits", k + 1, 1);
            for (int side = 0; side < 2; side++) {
                due(name, frame, "factor", NO, 1, side, 1);
                due(name, frame, "near", NO, 1, side);
                due(name, frame, "moment", NO, 1, side, 3, 3);
                due(name, frame, "yields", NO, 1, side);
                due(name, frame, "binding", NO, 1, side, 0);
                due(name, frame, "binding", NO, 1, side, 1);
            }
            due(name, frame, "spare", NO, 1, 1);
            due(name, frame, "weakest", NO, 1);
            due(name, frame, "factor", OUTSIDE, 1, 2, 0);
            due(name, frame, "factor", OUTSIDE, 1, 0, 2);
            due(name, frame, "near", OUTSIDE, 1, -1);
            due(name, frame, "moment", UNKNOWN, 1, 0, 4, 0);
            due(name, frame, "moment", OUTSIDE, 1, 2, 0, 0);
            due(name, frame, "moment", OUTSIDE, 1, 0, 0, -1);
            due(name, frame, "yields", OUTSIDE, 1, 2);
            due(name, frame, "binding", OUTSIDE, 1, 2, 0);
            due(name, frame, "binding", OUTSIDE, 1, 0, -1);
            due(name, frame, "spare", UNKNOWN, 1, 2);
            due(name, frame, "spare", OUTSIDE, 0, 0);
            due(name, frame, "bound", NO, 1, 1, 0);
            due(name, frame, "bound", UNKNOWN, 3, 1, 0);
        }
        Check.due("an answer that is not refused", ask(beam(), "limits", 1), 0);
    }
}
