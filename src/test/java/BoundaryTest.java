/**
 * Each sentence of the document that names a boundary case, in the document's order: said("..") quotes it, and the
 * checks that follow it would fail if it did not hold. What holds for many methods alike (ranges of arguments, order of
 * errors, refused calls) stands in RangeTest and RefusalTest.
 */
public final class BoundaryTest {
    private static final int UNKNOWN = -1;
    private static final int OUTSIDE = -2;
    private static final int STATE = -3;
    private static final int FULL = -4;
    private static final int NO = -5;
    private static final int NONE = -6;
    private static final long GONE = -4000000000000000000L;
    private static String sentence = "";

    public static void main(String[] args) {
        calls();
        conventions();
        nodesOfTheFrame();
        barsOfTheFrame();
        loadsOfTheFrame();
        kindsInMotion();
        slopes();
        looseness();
        mechanismsAndBounds();
        equilibrium();
        limitsOfFactors();
        newObject();
        nodeHoldBar();
        liftStrengthenLoad();
        properties();
        counts();
        mechanismTwistBound();
        limitsAndFactor();
        nearAndBears();
        momentAndYields();
        criticalMechanisms();
        strengths();
        images();
        Check.end("BoundaryTest");
    }

    private static void said(String words) {
        sentence = words;
    }

    private static void due(String what, long got, long want) {
        Check.due("\"" + sentence + "\": " + what, got, want);
    }

    private static void dueRatio(String what, long numerator, long denominator, long top, long bottom) {
        due(what + ", numerator", numerator, top);
        due(what + ", denominator", denominator, bottom);
    }

    private static void dueFactor(String what, FrameCollapse frame, int c, int side, long top, long bottom) {
        dueRatio(what, frame.factor(c, side, 0), frame.factor(c, side, 1), top, bottom);
    }

    /** The greatest and the least moment of an end in case 1, side 0. */
    private static void dueMoments(String what, FrameCollapse frame, int end, long[] want) {
        for (int k = 0; k < 4; k++) {
            due(what + ", end " + end + " what " + k, frame.moment(1, 0, end, k), want[k]);
        }
    }

    // ---- frames

    private static FrameCollapse single(int kind) {
        FrameCollapse frame = new FrameCollapse();
        frame.node(4, 4, kind);
        return frame;
    }

    /** A bar from a fixed node to a free one, at which case 1 has the vertical load -1. */
    private static FrameCollapse cantilever(int length, int strength) {
        FrameCollapse frame = new FrameCollapse();
        frame.node(0, 0, 2);
        frame.node(length, 0, 0);
        frame.bar(0, 1, strength);
        frame.load(1, 1, 0, -1);
        return frame;
    }

    /** Adds a cantilever of its own at another height, with vertical loads of the three cases at its free end. */
    private static void addCantilever(FrameCollapse frame, int y, int length, int strength, int[] loads) {
        int at = frame.node(0, y, 2);
        frame.node(length, y, 0);
        frame.bar(at, at + 1, strength);
        for (int c = 0; c < 3; c++) {
            frame.load(c, at + 1, 0, loads[c]);
        }
    }

    /** Two bars in a row between fixed nodes, with lengths 2 and strengths 3; case 1 pulls the middle down by 1. */
    private static FrameCollapse beam() {
        FrameCollapse frame = new FrameCollapse();
        frame.node(0, 0, 2);
        frame.node(2, 0, 0);
        frame.node(4, 0, 2);
        frame.bar(0, 1, 3);
        frame.bar(1, 2, 3);
        frame.load(1, 1, 0, -1);
        return frame;
    }

    /** A column of length 2 and strength 4 on a fixed node. */
    private static FrameCollapse column(int kindOfTop) {
        FrameCollapse frame = new FrameCollapse();
        frame.node(3, 3, 2);
        frame.node(3, 5, kindOfTop);
        frame.bar(0, 1, 4);
        return frame;
    }

    /** Six cantilevers of all directions round a fixed node; case 1 brings all of them to yield at the factor 3. */
    private static FrameCollapse star() {
        FrameCollapse frame = new FrameCollapse();
        frame.node(4, 4, 2);
        int[][] at = {{5, 4}, {6, 4}, {4, 5}, {4, 8}, {1, 4}, {4, 2}};
        int[] length = {1, 2, 1, 4, 3, 2};
        for (int b = 0; b < 6; b++) {
            int n = frame.node(at[b][0], at[b][1], 0);
            boolean ahead = b < 4;
            frame.bar(ahead ? 0 : n, ahead ? n : 0, 3 * length[b]);
            boolean vertical = at[b][0] == 4;
            frame.load(1, n, vertical ? 1 : 0, vertical ? 0 : 1);
        }
        return frame;
    }

    private static FrameCollapse loose() {
        FrameCollapse frame = cantilever(1, 5);
        frame.node(0, 1, 0);
        return frame;
    }

    // ---- what it is

    private static void calls() {
        said("An object is used for at most 512 calls after it has been made");
        FrameCollapse frame = cantilever(4, 1);
        int made = 4;
        while (made < 508) {
            int strength = made % 12 + 1;
            frame.strengthen(0, strength);
            due("call " + (made + 2), frame.factor(1, 0, 0), strength % 4 == 0 ? strength / 4 : factorTop(strength));
            frame.image(made % 2);
            frame.restore(made % 2);
            made += 4;
        }
        due("call 509", frame.strengthen(0, 11), 507 / 4 * 4 % 12 + 1);
        due("call 510", frame.factor(1, 0, 0), 11);
        due("call 511", frame.factor(1, 1, 1), 4);
        due("call 512", frame.count(5), 2);
        frame = new FrameCollapse();
        for (int k = 1; k < 512; k++) {
            due("refused call " + k, frame.node(-k, k, k), OUTSIDE);
        }
        due("call 512 is the first that is not refused", frame.node(9, 9, 3), 0);
    }

    private static int factorTop(int strength) {
        return strength % 2 == 0 ? strength / 2 : strength;
    }

    // ---- conventions

    private static void conventions() {
        said("All numbering starts at 0");
        FrameCollapse frame = new FrameCollapse();
        due("first node", frame.node(0, 0, 2), 0);
        due("second node", frame.node(0, 3, 0), 1);
        due("first bar", frame.bar(0, 1, 1), 0);
        due("first mechanism", frame.mechanism(0), 1);
        due("first end", frame.twist(0, 0, 0), 1);
        due("first image", frame.image(0), 1);
        said("Sets of ends are bits: bit e stands for end e");
        frame = star();
        for (int i = 0; i < 12; i++) {
            due("mechanism(" + i + ") of the star", frame.mechanism(i), 1 << i);
        }
        // bars 0 to 3 lead from the fixed node, bars 4 and 5 to it
        due("yields of the star", frame.yields(1, 0), 1 | 1 << 2 | 1 << 4 | 1 << 6 | 1 << 9 | 1 << 11);
        said("fractions are in lowest terms with a positive denominator (0 is 0 / 1)");
        frame = beam();
        frame.load(0, 1, 0, -4);
        frame.load(1, 1, 0, -4);
        dueRatio("upper bound 2 / 4", frame.bound(1, 1, 0), frame.bound(1, 1, 1), 1, 2);
        dueRatio("lower bound -10 / 4", frame.bound(1, 1, 2), frame.bound(1, 1, 3), -5, 2);
        dueFactor("greatest factor 2 / 4", frame, 1, 0, 1, 2);
        dueFactor("least factor -10 / 4", frame, 1, 1, -5, 2);
        frame.load(1, 1, 0, 4);
        dueFactor("greatest factor 10 / 4", frame, 1, 0, 5, 2);
        dueFactor("least factor -2 / 4", frame, 1, 1, -1, 2);
        zeros();
        said("Methods that return a long return GONE plus the code instead");
        frame = beam();
        due("UNKNOWN of twist", frame.twist(3, 0, 0), -4000000000000000001L);
        due("OUTSIDE of bound", frame.bound(0, 0, 0), -4000000000000000002L);
        due("STATE of factor", loose().factor(1, 0, 0), -4000000000000000003L);
        due("NO of moment", frame.moment(2, 0, 0, 0), -4000000000000000005L);
        said("NONE is returned only if no error applies");
        frame = star();
        due("weakest of the star", frame.weakest(1), NONE);
        due("outside", frame.weakest(3), OUTSIDE);
        due("without factors", frame.weakest(2), NO);
        frame.lift(5);
        due("loose", frame.weakest(1), STATE);
    }

    private static void zeros() {
        FrameCollapse frame = beam();
        dueRatio("twist 0", frame.twist(1, 2, 0), frame.twist(1, 2, 1), 0, 1);
        frame.strengthen(1, 1);
        frame.load(0, 1, 0, -3);
        frame.load(1, 1, 0, -5);
        dueFactor("greatest factor 0", frame, 1, 0, 0, 1);
        frame.load(1, 1, 0, 5);
        dueFactor("least factor 0", frame, 1, 1, 0, 1);
        frame = cantilever(4, 8);
        frame.load(0, 1, 0, -2);
        frame.load(1, 1, 0, -3);
        dueRatio("upper bound 0", frame.bound(0, 1, 0), frame.bound(0, 1, 1), 0, 1);
        frame.load(0, 1, 0, 2);
        dueRatio("lower bound 0", frame.bound(0, 1, 2), frame.bound(0, 1, 3), 0, 1);
        dueMoments("moment 0", frame, 1, new long[] {0, 1, 0, 1});
    }

    // ---- the frame

    private static void nodesOfTheFrame() {
        said("There are at most 7 nodes, numbered in the order in which they are added");
        FrameCollapse frame = new FrameCollapse();
        for (int n = 0; n < 7; n++) {
            due("node", frame.node(9 - n, n, 2), n);
            due("nodes", frame.count(0), n + 1);
        }
        due("an eighth node", frame.node(0, 0, 2), FULL);
        due("nodes are still", frame.count(0), 7);
        for (int n = 0; n < 7; n++) {
            due("x of node " + n, frame.ofNode(n, 0), 9 - n);
            due("y of node " + n, frame.ofNode(n, 1), n);
        }
        said("A node is at a point (x, y) of its own, x and y from 0 to 9");
        frame = new FrameCollapse();
        int[][] corners = {{0, 0}, {9, 0}, {0, 9}, {9, 9}};
        for (int n = 0; n < 4; n++) {
            due("corner", frame.node(corners[n][0], corners[n][1], 0), n);
        }
        due("the same point", frame.node(9, 0, 1), NO);
        due("the same x", frame.node(9, 1, 0), 4);
        due("the same y", frame.node(1, 0, 0), 5);
        due("x and y exchanged", frame.node(0, 1, 0), 6);
        said("of a kind: 0 free; 1 pinned; 2 fixed; 3 roller");
        for (int kind = -1; kind < 5; kind++) {
            boolean valid = kind >= 0 && kind < 4;
            due("node of kind " + kind, new FrameCollapse().node(1, 1, kind), valid ? 0 : OUTSIDE);
            due("hold as kind " + kind, single(3).hold(0, kind), valid ? 3 : OUTSIDE);
        }
    }

    private static void barsOfTheFrame() {
        said("There are at most 6 bars");
        FrameCollapse frame = star();
        due("a seventh bar", frame.bar(1, 2, 1), FULL);
        due("bars are still", frame.count(1), 6);
        due("one is lifted", frame.lift(0), 5);
        due("now there is room", frame.bar(1, 2, 1), 5);
        due("and full again", frame.bar(0, 1, 1), FULL);
        said("its second one, which is 1 to 4 to the right of it at the same y, or 1 to 4 above it at the same x");
        for (int right = -5; right <= 5; right++) {
            for (int up = -5; up <= 5; up++) {
                offerBar(right, up);
            }
        }
        said("There is at most one bar between two nodes");
        frame = cantilever(2, 5);
        due("again", frame.bar(0, 1, 5), NO);
        due("again with another strength", frame.bar(0, 1, 6), NO);
        due("the other way round it does not lead right", frame.bar(1, 0, 5), OUTSIDE);
        due("bars", frame.count(1), 1);
        due("strength", frame.ofBar(0, 4), 5);
        frame.lift(0);
        due("again when it is lifted", frame.bar(0, 1, 6), 0);
        said("Bars that touch or cross elsewhere do not affect one another");
        crossings();
        said("A bar has a strength, 1 to 12");
        for (int strength = 1; strength <= 12; strength++) {
            frame = cantilever(4, strength);
            due("strength " + strength, frame.ofBar(0, 4), strength);
            dueMoments("it is borne at the end", frame, 0, new long[] {strength, 1, strength, 1});
        }
        said("Bar b has the ends 2 * b, at its first node, and 2 * b + 1, at its second node");
        frame = cantilever(4, 5);
        addCantilever(frame, 2, 4, 5, new int[] {0, 1, 0});
        due("yields at the first nodes", frame.yields(1, 0), 1 | 1 << 2);
        frame.hold(0, 0);
        frame.hold(1, 2);
        frame.load(1, 1, 0, 0);
        frame.load(1, 0, 0, 1);
        due("yields at a second node", frame.yields(1, 0), 1 << 1 | 1 << 2);
    }

    private static void offerBar(int right, int up) {
        FrameCollapse frame = new FrameCollapse();
        int x = right < 0 ? 5 : 4;
        int y = up < 0 ? 5 : 4;
        frame.node(x, y, 0);
        int second = right == 0 && up == 0 ? 0 : frame.node(x + right, y + up, 0);
        boolean horizontal = up == 0 && right > 0 && right < 5;
        boolean vertical = right == 0 && up > 0 && up < 5;
        due("bar by " + right + ", " + up, frame.bar(0, second, 1), horizontal || vertical ? 0 : OUTSIDE);
        if (horizontal || vertical) {
            due("length", frame.ofBar(0, 2), right + up);
            due("vertical", frame.ofBar(0, 3), vertical ? 1 : 0);
        }
    }

    private static void crossings() {
        FrameCollapse frame = new FrameCollapse();
        frame.node(0, 2, 2);
        frame.node(4, 2, 0);
        frame.node(2, 0, 2);
        frame.node(2, 4, 0);
        frame.bar(0, 1, 4);
        frame.bar(2, 3, 4);
        frame.load(1, 1, 0, -1);
        frame.load(2, 3, 1, 0);
        due("two crossing cantilevers have four mechanisms", frame.count(5), 4);
        due("only one yields in case 1", frame.yields(1, 0), 1);
        due("only the other one yields in case 2", frame.yields(2, 0), 4);
        said("a bar does not affect nodes at which it only passes by");
        frame.node(2, 2, 0);
        due("a node at the crossing makes it loose", frame.count(2), 1);
        due("with three motions of its own", frame.count(3), 7);
        frame.hold(4, 2);
        due("a fixed node there holds no bar", frame.count(5), 4);
        frame = new FrameCollapse();
        frame.node(0, 0, 2);
        frame.node(2, 0, 0);
        frame.node(4, 0, 0);
        frame.bar(0, 2, 4);
        frame.bar(0, 1, 4);
        due("bars over one another", frame.count(2), 0);
        due("are two cantilevers", frame.count(5), 4);
        frame.bar(1, 2, 4);
        due("three of them share u", frame.count(3), 4);
        due("and have nine forces in six equations", frame.count(4), 3);
    }

    private static void loadsOfTheFrame() {
        said("Each case has for each node a horizontal load and a vertical load, -5 to 5, both 0 at first");
        FrameCollapse frame = new FrameCollapse();
        for (int n = 0; n < 7; n++) {
            frame.node(n, n, n % 4);
            for (int what = 3; what < 9; what++) {
                due("load at first", frame.ofNode(n, what), 0);
            }
        }
        frame = single(0);
        for (int c = 0; c < 3; c++) {
            for (int right = -6; right <= 6; right++) {
                for (int up = -6; up <= 6; up++) {
                    boolean valid = Math.abs(right) < 6 && Math.abs(up) < 6;
                    int loaded = right != 0 || up != 0 ? 1 : 0;
                    due("load " + right + ", " + up, frame.load(c, 0, right, up), valid ? loaded : OUTSIDE);
                    due("right", frame.ofNode(0, 3 + 2 * c), valid ? right : frame.ofNode(0, 3 + 2 * c));
                }
            }
            due("the last one right", frame.ofNode(0, 3 + 2 * c), 5);
            due("the last one up", frame.ofNode(0, 4 + 2 * c), 5);
        }
        said("The load cases are 0, 1 and 2");
        due("case -1", frame.load(-1, 0, 0, 0), OUTSIDE);
        due("case 3", frame.load(3, 0, 0, 0), OUTSIDE);
        due("nothing of it is kept", frame.ofNode(0, 8), 5);
    }

    // ---- motions

    private static void kindsInMotion() {
        said("For a fixed node all three are 0, for a pinned node u and v are 0, for a roller v is 0");
        int[] motions = {3, 1, 0, 2};
        for (int kind = 0; kind < 4; kind++) {
            due("motions of a node of kind " + kind, single(kind).count(3), motions[kind]);
        }
        // the top of a column: v is that of the fixed node anyway
        int[] ofColumn = {2, 1, 0, 2};
        // the far node of a horizontal bar: u is that of the fixed node anyway
        int[] ofCantilever = {2, 1, 0, 1};
        for (int kind = 0; kind < 4; kind++) {
            due("motions of a column, top " + kind, column(kind).count(3), ofColumn[kind]);
            FrameCollapse frame = cantilever(3, 1);
            frame.hold(1, kind);
            due("motions of a cantilever, end " + kind, frame.count(3), ofCantilever[kind]);
        }
        said("Both nodes of a horizontal bar have the same u, both nodes of a vertical bar the same v");
        FrameCollapse frame = new FrameCollapse();
        frame.node(0, 0, 0);
        frame.node(2, 0, 0);
        frame.node(0, 2, 0);
        due("three free nodes", frame.count(3), 9);
        frame.bar(0, 1, 1);
        due("one u less", frame.count(3), 8);
        frame.bar(0, 2, 1);
        due("one v less", frame.count(3), 7);
        frame.hold(0, 1);
        due("u and v of the pinned node hold the others", frame.count(3), 5);
    }

    private static void slopes() {
        said("The slope of a horizontal bar is (v of its second node - v of its first node) / length, "
            + "that of a vertical bar (u of its first node - u of its second node) / length");
        for (int length = 1; length <= 4; length++) {
            FrameCollapse flat = new FrameCollapse();
            FrameCollapse upright = new FrameCollapse();
            flat.node(0, 0, 2);
            upright.node(0, 0, 2);
            flat.node(4, 0, 0);
            upright.node(0, 4, 0);
            flat.node(4 + length, 0, 2);
            upright.node(0, 4 + length, 2);
            for (int b = 0; b < 2; b++) {
                flat.bar(b, b + 1, 12);
                upright.bar(b, b + 1, 12);
            }
            // the middle moves by 4 and turns by 1 with the first bar, while the second one turns by 4 / length back
            int common = length == 4 ? 4 : length == 2 ? 2 : 1;
            for (FrameCollapse frame : new FrameCollapse[] {flat, upright}) {
                due("ends", frame.mechanism(2), 13);
                dueRatio("near end of length " + length, frame.twist(2, 2, 0), frame.twist(2, 2, 1),
                    -(length + 4) / common, length / common);
                dueRatio("far end of length " + length, frame.twist(2, 3, 0), frame.twist(2, 3, 1), -4 / common,
                    length / common);
            }
        }
        said("The twist of an end is t of its node minus the slope of its bar");
        FrameCollapse frame = column(0);
        frame.load(1, 1, 1, 0);
        due("a load to the right bends the foot of a column counterclockwise", frame.moment(1, 0, 0, 0), 4);
        frame = cantilever(4, 4);
        due("a load downward bends the foot of a cantilever counterclockwise", frame.moment(1, 0, 0, 0), 4);
        frame.load(1, 1, 0, 1);
        due("a load upward clockwise", frame.moment(1, 0, 0, 0), -4);
    }

    private static void looseness() {
        said("The frame is loose if there is a motion, not all of whose numbers are 0, with all twists 0");
        due("the empty frame is not loose", new FrameCollapse().count(2), 0);
        int[] alone = {1, 1, 0, 1};
        for (int kind = 0; kind < 4; kind++) {
            due("a node alone, kind " + kind, single(kind).count(2), alone[kind]);
        }
        FrameCollapse frame = cantilever(4, 4);
        due("a cantilever", frame.count(2), 0);
        frame.hold(0, 1);
        due("a bar on a pinned node turns", frame.count(2), 1);
        frame.hold(1, 3);
        due("with a roller it does not", frame.count(2), 0);
        frame.hold(0, 3);
        due("on two rollers it slides", frame.count(2), 1);
        frame.hold(1, 1);
        due("on a roller and a pinned node it does not", frame.count(2), 0);
        frame.hold(0, 0);
        due("on a pinned node it turns", frame.count(2), 1);
        due("motions of it are still counted", frame.count(3), 3);
        frame = column(3);
        frame.hold(0, 1);
        due("a column on a pinned node with a roller on top turns", frame.count(2), 1);
        frame.hold(1, 1);
        due("pinned at both ends it does not", frame.count(2), 0);
    }

    private static void mechanismsAndBounds() {
        said("a mechanism is a set of ends, not empty, .. such that this holds for no other set, not empty, of some of "
            + "these ends");
        due("none without nodes", new FrameCollapse().count(5), 0);
        due("none without motions", single(2).count(5), 0);
        FrameCollapse frame = beam();
        // 14 twists ends 2 and 3 with end 1, but 6 alone is one already
        int[] sets = {6, 11, 13};
        for (int i = 0; i < 3; i++) {
            due("mechanism(" + i + ")", frame.mechanism(i), sets[i]);
        }
        due("they are all", frame.count(5), 3);
        frame = star();
        due("sets of one end only", frame.count(5), 12);
        said("The mechanisms are numbered in ascending order as numbers");
        frame.lift(5);
        frame.lift(4);
        frame.hold(5, 2);
        frame.hold(6, 2);
        frame.bar(1, 2, 12);
        frame.bar(3, 4, 12);
        due("more", frame.count(2), 0);
        for (int i = 1; i < frame.count(5); i++) {
            due("ascending at " + i, frame.mechanism(i - 1) < frame.mechanism(i) ? 1 : 0, 1);
        }
        said("If the work of case 1 or 2 in the motion of a mechanism is not 0, take the motion with the sign for which "
            + "this work is positive");
        frame = cantilever(2, 6);
        frame.load(0, 1, 0, 1);
        for (int sign = -1; sign <= 1; sign += 2) {
            frame.load(1, 1, 0, sign);
            // strain 6, work 2 of the case, 2 * sign of case 0
            dueRatio("upper", frame.bound(0, 1, 0), frame.bound(0, 1, 1), 3 - sign, 1);
            dueRatio("lower", frame.bound(0, 1, 2), frame.bound(0, 1, 3), -3 - sign, 1);
        }
        frame.load(1, 1, 5, 0);
        due("work 0", frame.bound(0, 1, 0), GONE + NO);
        due("work 0, lower", frame.bound(0, 1, 3), GONE + NO);
    }

    // ---- equilibrium

    private static void equilibrium() {
        said("a moment for each end, whose absolute value is at most the strength of its bar");
        FrameCollapse frame = cantilever(3, 9);
        due("just the strength", frame.bears(3, 0, 1), 1);
        due("a little more", frame.bears(91, 0, 30), 0);
        due("just the strength, upward", frame.bears(-3, 0, 1), 1);
        due("a little more, upward", frame.bears(-91, 0, 30), 0);
        said("an axial force for each bar, any number");
        frame.load(2, 1, -5, 0);
        due("greatest push", frame.bears(0, 99, 1), 1);
        due("greatest pull", frame.bears(0, -99, 1), 1);
        due("all numbers are factors", frame.limits(2), 1);
        said("There is equilibrium .. horizontally, unless the node is pinned or fixed; vertically, if the node is free");
        int[] right = {0, 1, 1, 0};
        int[] up = {0, 1, 1, 1};
        for (int kind = 0; kind < 4; kind++) {
            frame = column(kind);
            frame.load(1, 1, 1, 0);
            due("a push at the top, kind " + kind, frame.limits(1), right[kind]);
            frame = cantilever(2, 1);
            frame.hold(1, kind);
            due("a pull at the end, kind " + kind, frame.limits(1), up[kind]);
            frame = cantilever(2, 1);
            frame.load(1, 1, 0, 0);
            frame.load(1, 0, 5, 5);
            due("a load at the fixed node", frame.limits(1), 1);
        }
        said("in rotation, unless the node is fixed: the sum of the moments of all ends at it = 0");
        dueMoments("at the free end", cantilever(4, 3), 1, new long[] {0, 1, 0, 1});
        frame = beam();
        frame.strengthen(1, 2);
        dueMoments("at the middle, first bar", frame, 1, new long[] {2, 1, 2, 1});
        dueMoments("at the middle, second bar", frame, 2, new long[] {-2, 1, -2, 1});
        frame.hold(1, 2);
        due("unless it is fixed", frame.limits(1), 1);
        due("and six forces are free", frame.count(4), 6);
    }

    private static void limitsOfFactors() {
        said("Either there is a greatest and a least factor, or all numbers are factors, or none is");
        FrameCollapse frame = cantilever(2, 4);
        due("both", frame.limits(1), 0);
        due("all", frame.limits(2), 1);
        addCantilever(frame, 1, 2, 4, new int[] {2, 0, 0});
        due("both, the steady loads being just borne", frame.limits(1), 0);
        due("all, the steady loads being just borne", frame.limits(2), 1);
        dueFactor("not changed by them", frame, 1, 0, 2, 1);
        frame.strengthen(1, 3);
        due("none, with loads", frame.limits(1), 2);
        due("none, without", frame.limits(2), 2);
        said("the greatest factor of the case (side 0) or the least one (side 1)");
        frame = cantilever(2, 4);
        frame.load(0, 1, 0, -1);
        dueFactor("side 0", frame, 1, 0, 1, 1);
        dueFactor("side 1", frame, 1, 1, -3, 1);
        frame.load(2, 1, 0, 1);
        dueFactor("side 0 of case 2", frame, 2, 0, 3, 1);
        dueFactor("side 1 of case 2", frame, 2, 1, -1, 1);
        frame.load(0, 1, 0, -5);
        dueFactor("both are below 0", frame, 1, 0, -3, 1);
        dueFactor("both are above 0", frame, 2, 1, 3, 1);
        said("critical .. if the work of the limit loads in its motion, taken with one of both signs, is equal to its "
            + "strain");
        frame = cantilever(2, 4);
        addCantilever(frame, 1, 2, 4, new int[] {0, 1, 0});
        addCantilever(frame, 2, 2, 4, new int[] {2, 0, 0});
        due("pulled down, up, and by steady loads", frame.binding(1, 0, 0), 3);
        due("also at the least factor", frame.binding(1, 1, 0), 3);
        frame.strengthen(2, 5);
        due("not if the strain is greater", frame.binding(1, 0, 0), 2);
    }

    // ---- promises 1 to 9

    private static void newObject() {
        said("Creates a frame without nodes and bars; nothing is kept in the images");
        FrameCollapse frame = new FrameCollapse();
        for (int what = 0; what < 7; what++) {
            due("count(" + what + ")", frame.count(what), 0);
        }
        due("node 0", frame.ofNode(0, 0), UNKNOWN);
        due("bar 0", frame.ofBar(0, 0), UNKNOWN);
        due("mechanism 0", frame.mechanism(0), UNKNOWN);
        due("twist", frame.twist(0, 0, 0), GONE + UNKNOWN);
        due("bound", frame.bound(0, 1, 0), GONE + UNKNOWN);
        due("bears", frame.bears(-99, 99, 99), 1);
        due("end 0", frame.moment(1, 0, 0, 0), GONE + UNKNOWN);
        due("spare", frame.spare(1, 0), UNKNOWN);
        for (int c = 1; c < 3; c++) {
            due("limits", frame.limits(c), 1);
            for (int side = 0; side < 2; side++) {
                due("factor", frame.factor(c, side, 0), GONE + NO);
                due("near", frame.near(c, side), NO);
                due("yields", frame.yields(c, side), NO);
                due("binding", frame.binding(c, side, 1), NO);
            }
            due("weakest", frame.weakest(c), NO);
        }
        due("image 0", frame.restore(0), NO);
        due("image 1", frame.restore(1), NO);
        FrameCollapse other = cantilever(4, 4);
        other.image(0);
        due("an object of its own", new FrameCollapse().count(6) + frame.count(0), 0);
    }

    private static void nodeHoldBar() {
        said("NO if there is a node at this point; FULL if there are 7 nodes");
        FrameCollapse frame = star();
        due("a point that is taken in a full frame", frame.node(4, 4, 0), NO);
        due("a free point in a full frame", frame.node(0, 0, 0), FULL);
        due("a wrong kind in a full frame", frame.node(4, 4, 4), OUTSIDE);
        said("Sets the kind of a node; returns the previous kind");
        frame = single(0);
        int[] kinds = {3, 3, 2, 1, 0, 0};
        int previous = 0;
        for (int kind : kinds) {
            due("previous kind", frame.hold(0, kind), previous);
            due("kind", frame.ofNode(0, 2), kind);
            previous = kind;
        }
        said("UNKNOWN if there is no such node");
        due("bar from node 1 of 1", frame.bar(1, 0, 1), UNKNOWN);
        due("bar to node 1 of 1", frame.bar(0, 1, 1), UNKNOWN);
        due("bar from node -1", frame.bar(-1, 0, 1), UNKNOWN);
        due("bar to node -1", frame.bar(0, -1, 1), UNKNOWN);
        said("NO if there is a bar between these nodes; FULL if there are 6 bars");
        frame = star();
        due("a bar that is there in a full frame", frame.bar(0, 4, 1), NO);
        due("a bar that is not, in a full frame", frame.bar(1, 2, 1), FULL);
        due("a wrong strength in a full frame", frame.bar(1, 2, 13), OUTSIDE);
        due("a bar askew in a full frame", frame.bar(5, 6, 1), OUTSIDE);
        due("no node in a full frame", frame.bar(1, 7, 1), UNKNOWN);
    }

    private static void liftStrengthenLoad() {
        said("Removes a bar. The numbers of the bars behind it decrease by 1; returns how many bars are left");
        for (int lifted = 0; lifted < 6; lifted++) {
            FrameCollapse frame = star();
            due("left", frame.lift(lifted), 5);
            for (int b = 0; b < 5; b++) {
                int was = b < lifted ? b : b + 1;
                due("strength", frame.ofBar(b, 4), star().ofBar(was, 4));
                due("first", frame.ofBar(b, 0), star().ofBar(was, 0));
                due("second", frame.ofBar(b, 1), star().ofBar(was, 1));
            }
            due("bar 5", frame.ofBar(5, 4), UNKNOWN);
            due("lift bar 5", frame.lift(5), UNKNOWN);
            frame.hold(lifted + 1, 2);
            due("ends too: mechanisms", frame.count(5), 10);
            due("ends too: the last", frame.twist(9, 9, 0), 1);
            due("ends too: behind the last", frame.twist(9, 10, 0), GONE + UNKNOWN);
        }
        FrameCollapse frame = cantilever(2, 2);
        due("the only one", frame.lift(0), 0);
        due("none is left", frame.lift(0), UNKNOWN);
        said("Sets the strength of a bar; returns the previous strength");
        frame = cantilever(4, 12);
        due("12 to 1", frame.strengthen(0, 1), 12);
        dueFactor("with 1", frame, 1, 0, 1, 4);
        due("1 to 1", frame.strengthen(0, 1), 1);
        due("1 to 12", frame.strengthen(0, 12), 1);
        dueFactor("with 12", frame, 1, 0, 3, 1);
        said("Returns the number of nodes at which some load of this case is not 0");
        frame = star();
        for (int n = 0; n < 7; n++) {
            due("right only, up only or both", frame.load(0, n, n % 3 < 2 ? -5 : 0, n % 3 > 0 ? 5 : 0), n + 1);
        }
        due("zeros where there were none", frame.load(2, 3, 0, 0), 0);
        for (int n = 0; n < 7; n++) {
            due("zeros again", frame.load(0, n, 0, 0), 6 - n);
        }
        due("case 1 as before", frame.load(1, 0, 0, 0), 6);
    }

    private static void properties() {
        said("0 for x, 1 for y, 2 for the kind; 3 + 2 * c for the horizontal load and 4 + 2 * c for the vertical load");
        FrameCollapse frame = new FrameCollapse();
        frame.node(9, 0, 3);
        frame.node(0, 9, 1);
        frame.load(0, 0, 5, -5);
        frame.load(1, 0, -4, 4);
        frame.load(2, 0, 3, -3);
        int[] first = {9, 0, 3, 5, -5, -4, 4, 3, -3};
        int[] second = {0, 9, 1, 0, 0, 0, 0, 0, 0};
        for (int what = 0; what < 9; what++) {
            due("node 0, what " + what, frame.ofNode(0, what), first[what]);
            due("node 1, what " + what, frame.ofNode(1, what), second[what]);
        }
        due("what 9", frame.ofNode(0, 9), OUTSIDE);
        due("what -1", frame.ofNode(0, -1), OUTSIDE);
        due("node 2", frame.ofNode(2, 0), UNKNOWN);
        due("node -1", frame.ofNode(-1, 0), UNKNOWN);
        said("0 for the first node, 1 for the second node, 2 for the length, 3 for whether it is vertical (1 or 0), "
            + "4 for the strength");
        frame = star();
        int[][] bars = {{0, 1, 1, 0, 3}, {0, 2, 2, 0, 6}, {0, 3, 1, 1, 3}, {0, 4, 4, 1, 12}, {5, 0, 3, 0, 9},
            {6, 0, 2, 1, 6}};
        for (int b = 0; b < 6; b++) {
            for (int what = 0; what < 5; what++) {
                due("bar " + b + ", what " + what, frame.ofBar(b, what), bars[b][what]);
            }
        }
        due("what 5", frame.ofBar(0, 5), OUTSIDE);
        due("what -1", frame.ofBar(0, -1), OUTSIDE);
        due("bar 6", frame.ofBar(6, 0), UNKNOWN);
        due("bar -1", frame.ofBar(-1, 0), UNKNOWN);
    }

    private static void counts() {
        said("3 for the dimension of the space of all motions");
        FrameCollapse frame = new FrameCollapse();
        for (int n = 0; n < 7; n++) {
            frame.node(n, n, 0);
        }
        due("seven free nodes", frame.count(3), 21);
        due("no bars, no forces", frame.count(4), 0);
        for (int n = 0; n < 7; n++) {
            frame.hold(n, 2);
        }
        due("seven fixed nodes", frame.count(3), 0);
        said("4 for the dimension of the space of all moments and axial forces that are in equilibrium if all loads are "
            + "0, whatever the strengths are");
        frame = star();
        due("statically determinate", frame.count(4), 0);
        for (int n = 1; n < 7; n++) {
            frame.hold(n, 2);
            due("three more with each fixed node", frame.count(4), 3 * n);
        }
        frame.strengthen(0, 12);
        frame.load(0, 1, 5, 5);
        due("whatever strengths and loads are", frame.count(4), 18);
        frame = cantilever(2, 1);
        frame.hold(0, 0);
        due("of a loose bar", frame.count(4), 0);
        said("6 for which images are kept (1 for image 0 plus 2 for image 1)");
        due("none", frame.count(6), 0);
        frame.image(1);
        due("image 1", frame.count(6), 2);
        frame.image(1);
        due("image 1 twice", frame.count(6), 2);
        frame.image(0);
        due("both", frame.count(6), 3);
        frame.restore(0);
        due("both after restore", frame.count(6), 3);
        FrameCollapse other = new FrameCollapse();
        other.image(0);
        due("image 0, of an empty frame", other.count(6), 1);
        said("STATE if what is 5 and the frame is loose");
        frame = loose();
        int[] wanted = {3, 1, 1, 5, 0, STATE, 0};
        for (int what = 0; what < 7; what++) {
            due("count(" + what + ") of a loose frame", frame.count(what), wanted[what]);
        }
        due("count(7) of a loose frame", frame.count(7), OUTSIDE);
        due("count(-1) of a loose frame", frame.count(-1), OUTSIDE);
    }

    // ---- promises 11 to 13

    private static void mechanismTwistBound() {
        said("Returns the set of its ends; STATE if the frame is loose; UNKNOWN if there is no such mechanism");
        FrameCollapse frame = star();
        due("the last", frame.mechanism(11), 2048);
        due("behind it", frame.mechanism(12), UNKNOWN);
        due("-1", frame.mechanism(-1), UNKNOWN);
        due("loose", loose().mechanism(0), STATE);
        due("loose, and none such", loose().mechanism(-1), STATE);
        frame.hold(1, 2);
        due("fewer when a node is fixed", frame.mechanism(11), UNKNOWN);
        said("the twist of an end in the motion of a mechanism, divided by the twist of the lowest end of the mechanism");
        frame = beam();
        long[][] twists = {{0, 1, 1, 0}, {1, 2, 0, -1}, {1, 0, -2, -1}};
        for (int i = 0; i < 3; i++) {
            for (int end = 0; end < 4; end++) {
                dueRatio("twist " + i + " of " + end, frame.twist(i, end, 0), frame.twist(i, end, 1), twists[i][end], 1);
            }
        }
        due("end 4 of two bars", frame.twist(0, 4, 0), GONE + UNKNOWN);
        due("end -1", frame.twist(0, -1, 0), GONE + UNKNOWN);
        due("mechanism 3 of three", frame.twist(3, 0, 0), GONE + UNKNOWN);
        due("mechanism -1", frame.twist(-1, 0, 0), GONE + UNKNOWN);
        due("no bars: no ends", single(2).twist(0, 0, 0), GONE + UNKNOWN);
        said("NO if the work of the case in its motion is 0");
        due("the middle only turns", frame.bound(0, 1, 0), GONE + NO);
        due("a case without loads", frame.bound(1, 2, 0), GONE + NO);
        frame.load(2, 1, 5, 0);
        due("loads along the bars", frame.bound(1, 2, 2), GONE + NO);
        frame.load(2, 1, 5, 1);
        dueRatio("and across", frame.bound(1, 2, 2), frame.bound(1, 2, 3), -6, 1);
        said("bound .. UNKNOWN if there is no such mechanism");
        due("mechanism 3", frame.bound(3, 1, 0), GONE + UNKNOWN);
        due("mechanism -1", frame.bound(-1, 1, 3), GONE + UNKNOWN);
    }

    // ---- promises 14 to 20

    private static void limitsAndFactor() {
        said("Returns 0 if there are a greatest and a least factor, 1 if all numbers are factors, 2 if none is");
        FrameCollapse frame = cantilever(2, 4);
        addCantilever(frame, 1, 2, 4, new int[] {4, 1, 0});
        frame.load(0, 1, 0, -1);
        // -1 - f >= -2 and 4 + f <= 2 leave -3 <= f <= 1 and -6 <= f <= -2
        due("an interval", frame.limits(1), 0);
        dueFactor("greatest", frame, 1, 0, -2, 1);
        dueFactor("least", frame, 1, 1, -3, 1);
        frame.load(0, 3, 0, 5);
        due("a single number", frame.limits(1), 0);
        dueFactor("greatest", frame, 1, 0, -3, 1);
        dueFactor("least", frame, 1, 1, -3, 1);
        due("its nearest floats are one", frame.near(1, 0), frame.near(1, 1));
        frame.load(0, 1, 0, -2);
        due("room again", frame.limits(1), 0);
        frame.load(0, 1, 0, 0);
        due("none", frame.limits(1), 2);
        said("NO if there is no such factor");
        noFactor("none is", frame, 1);
        frame = cantilever(2, 4);
        noFactor("all are", frame, 2);
        due("all are: spare", frame.spare(2, 0), NO);
        frame.load(0, 1, 0, -3);
        noFactor("the steady loads are too great", frame, 2);
        due("but case 1 can lift them", frame.limits(1), 0);
        dueFactor("by -1 at least", frame, 1, 0, -1, 1);
    }

    private static void noFactor(String what, FrameCollapse frame, int c) {
        for (int side = 0; side < 2; side++) {
            due(what + ": factor", frame.factor(c, side, 0), GONE + NO);
            due(what + ": factor, denominator", frame.factor(c, side, 1), GONE + NO);
            due(what + ": near", frame.near(c, side), NO);
            due(what + ": moment", frame.moment(c, side, 0, 0), GONE + NO);
            due(what + ": yields", frame.yields(c, side), NO);
            due(what + ": binding", frame.binding(c, side, 0), NO);
            due(what + ": binding, lowest", frame.binding(c, side, 1), NO);
        }
        due(what + ": spare", frame.spare(c, 0), NO);
        due(what + ": weakest", frame.weakest(c), NO);
    }

    private static void nearAndBears() {
        said("numerator and denominator are converted to float, and the quotient is computed in float arithmetic");
        for (int length = 1; length <= 4; length++) {
            for (int strength = 1; strength <= 12; strength++) {
                for (int load = 1; load <= 5; load++) {
                    FrameCollapse frame = cantilever(length, strength);
                    frame.load(1, 1, 0, load);
                    float quotient = (float) strength / (float) (length * load);
                    due("greatest", frame.near(1, 0), Float.floatToIntBits(quotient));
                    due("least", frame.near(1, 1), Float.floatToIntBits(-quotient));
                }
            }
        }
        said("Returns the bits of the quotient, as Float.floatToIntBits returns them");
        FrameCollapse frame = cantilever(1, 1);
        due("1", frame.near(1, 0), 0x3f800000);
        due("-1", frame.near(1, 1), 0xbf800000);
        frame.load(1, 1, 0, -3);
        due("1 / 3", frame.near(1, 0), 0x3eaaaaab);
        frame.load(0, 1, 0, -1);
        due("0", frame.near(1, 0), 0);
        frame.load(0, 1, 0, 1);
        due("0 as the least", frame.near(1, 1), 0);
        said("bears .. one / q times those of case 1 plus other / q times those of case 2");
        frame = cantilever(1, 4);
        frame.load(0, 1, 0, -1);
        frame.load(2, 1, 0, -2);
        // 1 + one / q + 2 * other / q, at most 4 in size
        int[][] just = {{3, 0, 1}, {-5, 0, 1}, {1, 1, 1}, {99, 99, 99}, {-99, 99, 33}, {99, -99, 20}, {0, -5, 2}};
        for (int[] a : just) {
            due("borne: " + a[0] + ", " + a[1] + ", " + a[2], frame.bears(a[0], a[1], a[2]), 1);
        }
        int[][] more = {{4, 0, 1}, {-6, 0, 1}, {2, 1, 1}, {98, 99, 98}, {-97, 99, 33}, {99, -99, 19}, {0, -6, 2}};
        for (int[] a : more) {
            due("not borne: " + a[0] + ", " + a[1] + ", " + a[2], frame.bears(a[0], a[1], a[2]), 0);
        }
    }

    private static void momentAndYields() {
        said("the greatest or the least moment of an end .. all moments being within the strengths");
        // an idle bar between fixed nodes may bear anything within its strength
        for (int strength = 1; strength <= 12; strength += 11) {
            FrameCollapse frame = cantilever(4, 3);
            frame.node(0, 5, 2);
            frame.node(0, 9, 2);
            frame.bar(2, 3, strength);
            dueMoments("idle", frame, 2, new long[] {strength, 1, -strength, 1});
            dueMoments("idle", frame, 3, new long[] {strength, 1, -strength, 1});
            due("it does not yield for sure", frame.yields(1, 0), 1);
        }
        said("UNKNOWN if there is no such end");
        FrameCollapse frame = beam();
        due("end 4 of two bars", frame.moment(1, 0, 4, 0), GONE + UNKNOWN);
        due("end -1", frame.moment(1, 0, -1, 0), GONE + UNKNOWN);
        due("end 3", frame.moment(1, 0, 3, 0), -3);
        said("those whose moment is the strength of the bar in all cases of equilibrium .. or minus the strength in all "
            + "of them");
        due("strength and minus strength", frame.yields(1, 0), 15);
        due("the other way round", frame.yields(1, 1), 15);
        frame.strengthen(0, 4);
        dueMoments("a moment that is certain but smaller", frame, 1, new long[] {3, 1, 3, 1});
        due("does not yield", frame.yields(1, 0), 13);
        frame = portalOnPins();
        // the heads of both columns resist the sway, 4 / 4 each
        dueFactor("a sway", frame, 1, 0, 2, 1);
        dueMoments("certain at the head of one column", frame, 1, new long[] {4, 1, 4, 1});
        due("heads of columns only", frame.yields(1, 0), 1 << 1 | 1 << 3);
    }

    /** Columns of length 4 and strength 4 on pinned nodes, a girder of strength 5; case 1 pushes the left head. */
    private static FrameCollapse portalOnPins() {
        FrameCollapse frame = new FrameCollapse();
        frame.node(0, 0, 1);
        frame.node(3, 0, 1);
        frame.node(0, 4, 0);
        frame.node(3, 4, 0);
        frame.bar(0, 2, 4);
        frame.bar(1, 3, 4);
        frame.bar(2, 3, 5);
        frame.load(1, 2, 1, 0);
        return frame;
    }

    private static void criticalMechanisms() {
        said("0 for the number of these mechanisms, 1 for the lowest one of them");
        FrameCollapse frame = star();
        due("all six yield", frame.binding(1, 0, 0), 6);
        due("the lowest", frame.binding(1, 0, 1), 0);
        frame.strengthen(0, 12);
        due("five", frame.binding(1, 1, 0), 5);
        due("the lowest is the next bar's", frame.binding(1, 1, 1), 2);
        for (int b = 1; b < 5; b++) {
            frame.strengthen(b, 12);
        }
        frame.strengthen(3, 12);
        frame.load(1, 4, 0, 0);
        due("one", frame.binding(1, 0, 0), 1);
        due("the last of all", frame.binding(1, 0, 1), 11);
        due("bar 5 leads to the fixed node", frame.mechanism(11), 1 << 11);
    }

    // ---- promises 21 and 22

    private static void strengths() {
        said("the greatest n, from 0 to its strength minus 1, such that the case would have a greatest factor, and the "
            + "same one as it has now");
        for (int strength = 1; strength <= 12; strength++) {
            FrameCollapse frame = cantilever(4, 3);
            addCantilever(frame, 1, 4, strength, new int[] {0, 0, 0});
            due("an idle bar of strength " + strength, frame.spare(1, 1), strength - 1);
            due("the bar that yields", frame.spare(1, 0), 0);
            due("the strength stays", frame.ofBar(1, 4), strength);
        }
        FrameCollapse frame = cantilever(4, 4);
        addCantilever(frame, 1, 2, 9, new int[] {0, 1, 0});
        due("as strong as the other one, at factor 1", frame.spare(1, 1), 7);
        frame.load(0, 3, 0, 4);
        due("none but at the limit", frame.limits(1), 0);
        addCantilever(frame, 2, 1, 12, new int[] {5, 0, 0});
        due("else no factor", frame.spare(1, 2), 7);
        frame.load(0, 5, 0, -5);
        due("else no factor, downward", frame.spare(1, 2), 7);
        said("NO if the case has no greatest factor");
        due("all numbers", frame.spare(2, 0), NO);
        frame.strengthen(2, 4);
        due("none", frame.spare(1, 0), NO);
        said("UNKNOWN if there is no such bar");
        due("bar 3", frame.spare(1, 3), UNKNOWN);
        due("bar -1", frame.spare(1, -1), UNKNOWN);
        said("if its strength were greater by 1 (13 is possible here)");
        frame = cantilever(4, 12);
        due("12 to 13", frame.weakest(1), 0);
        due("is still", frame.ofBar(0, 4), 12);
        dueFactor("is still", frame, 1, 0, 3, 1);
        said("Returns the bar, the lowest one of several");
        due("two alike", beam().weakest(1), 0);
        said("by which the greatest factor of a case would become greatest");
        frame = new FrameCollapse();
        frame.node(0, 0, 2);
        frame.node(3, 0, 0);
        frame.node(4, 0, 2);
        frame.bar(0, 1, 3);
        frame.bar(1, 2, 3);
        frame.load(1, 1, 0, -1);
        // both sags have the strain 24 and the work 3; with the first bar stronger 25 and 29, with the second 31 and 27
        due("the second one by more", frame.weakest(1), 1);
        frame = new FrameCollapse();
        frame.node(0, 0, 2);
        frame.node(1, 0, 0);
        frame.node(2, 0, 2);
        frame.bar(0, 1, 2);
        frame.bar(1, 2, 1);
        frame.load(1, 1, 0, 1);
        addCantilever(frame, 1, 1, 7, new int[] {0, 1, 0});
        // from 5 to 6 by the first bar and to 7 by the second; by 2 it would be 7 with both
        due("by 1, not by 2", frame.weakest(1), 1);
        said("NONE if the factor would become greater by none");
        due("two cantilevers at once", star().weakest(1), NONE);
        frame = cantilever(4, 4);
        due("one alone", frame.weakest(1), 0);
        addCantilever(frame, 1, 4, 4, new int[] {0, 1, 0});
        due("two", frame.weakest(1), NONE);
        frame.strengthen(0, 5);
        due("the weaker one", frame.weakest(1), 1);
        due("a case without a greatest factor", frame.weakest(2), NO);
        frame.load(0, 1, 0, 5);
        frame.load(1, 1, 0, 0);
        due("a case without factors", frame.weakest(1), NO);
    }

    // ---- promises 23 and 24

    private static void images() {
        said("Keeps nodes, bars and loads in an image, in place of what was kept there");
        FrameCollapse frame = cantilever(4, 3);
        due("image 0", frame.image(0), 1);
        frame.strengthen(0, 4);
        due("image 1", frame.image(1), 1);
        frame.strengthen(0, 5);
        due("image 0 again", frame.image(0), 1);
        frame.strengthen(0, 6);
        due("restore 1", frame.restore(1), 1);
        due("kept in image 1", frame.ofBar(0, 4), 4);
        due("restore 0", frame.restore(0), 1);
        due("kept in image 0 last", frame.ofBar(0, 4), 5);
        said("Restores what is kept in an image; it stays there");
        for (int k = 0; k < 2; k++) {
            frame = new FrameCollapse();
            frame.node(1, 2, 3);
            frame.node(3, 2, 1);
            frame.bar(0, 1, 7);
            frame.load(0, 0, 1, 2);
            frame.load(2, 1, 4, 5);
            frame.image(k);
            for (int times = 0; times < 3; times++) {
                frame.node(0, 2, 2);
                frame.bar(2, 0, 9);
                frame.hold(0, times);
                for (int load = 0; load < 9; load++) {
                    frame.load(load % 3, load / 3, -1 - times, times - 5);
                }
                frame.strengthen(0, 12);
                frame.lift(0);
                due("restore", frame.restore(k), 1);
                duePinned(frame);
            }
            due("nothing is kept in the other one", frame.restore(1 - k), NO);
        }
        otherPoints();
        said("NO if nothing was kept in it");
        frame = cantilever(4, 3);
        due("image 0", frame.restore(0), NO);
        due("image 1", frame.restore(1), NO);
        due("the frame is as before", frame.count(1), 1);
        new FrameCollapse().image(0);
        due("images of another object", frame.restore(0), NO);
        said("A new object: .. without nodes and bars, kept and restored");
        frame = new FrameCollapse();
        frame.image(0);
        due("first node", frame.node(5, 5, 0), 0);
        frame.load(1, 0, 5, 5);
        due("restore", frame.restore(0), 1);
        due("no nodes", frame.count(0), 0);
        due("no node 0", frame.ofNode(0, 0), UNKNOWN);
        due("not loose", frame.count(2), 0);
        due("the point is free again", frame.node(5, 5, 0), 0);
        due("and has no loads", frame.ofNode(0, 5), 0);
    }

    /** The images hold the same numbers of nodes and bars, and nothing else is alike. */
    private static void otherPoints() {
        FrameCollapse frame = new FrameCollapse();
        frame.image(1);
        frame.node(1, 2, 1);
        frame.node(3, 2, 1);
        frame.bar(0, 1, 4);
        frame.image(0);
        frame.restore(1);
        frame.node(8, 9, 2);
        frame.node(8, 6, 2);
        frame.bar(1, 0, 5);
        frame.image(1);
        int[][] nodes = {{1, 2, 1, 3, 2, 1}, {8, 9, 2, 8, 6, 2}};
        int[][] bars = {{0, 1, 2, 0, 4}, {1, 0, 3, 1, 5}};
        for (int times = 0; times < 4; times++) {
            int k = times % 2;
            due("restore", frame.restore(k), 1);
            for (int what = 0; what < 6; what++) {
                due("image " + k + ", of node", frame.ofNode(what / 3, what % 3), nodes[k][what]);
            }
            for (int what = 0; what < 5; what++) {
                due("image " + k + ", of bar", frame.ofBar(0, what), bars[k][what]);
            }
            due("motions", frame.count(3), k == 0 ? 2 : 0);
            due("its points are taken", frame.node(nodes[k][0], nodes[k][1], 0), NO);
        }
    }

    private static void duePinned(FrameCollapse frame) {
        due("nodes", frame.count(0), 2);
        due("bars", frame.count(1), 1);
        int[][] nodes = {{1, 2, 3, 1, 2, 0, 0, 0, 0}, {3, 2, 1, 0, 0, 0, 0, 4, 5}};
        int[] bar = {0, 1, 2, 0, 7};
        for (int what = 0; what < 9; what++) {
            due("node 0, what " + what, frame.ofNode(0, what), nodes[0][what]);
            due("node 1, what " + what, frame.ofNode(1, what), nodes[1][what]);
        }
        for (int what = 0; what < 5; what++) {
            due("bar, what " + what, frame.ofBar(0, what), bar[what]);
        }
        due("motions", frame.count(3), 2);
        due("not loose", frame.count(2), 0);
    }
}
