/** For each promise of the document: ordinary inputs, the edges that it names, and wrong inputs in their order. */
public final class PromiseTest {
    private static final int UNKNOWN = FrameCollapse.UNKNOWN;
    private static final int OUTSIDE = FrameCollapse.OUTSIDE;
    private static final int STATE = FrameCollapse.STATE;
    private static final int FULL = FrameCollapse.FULL;
    private static final int NO = FrameCollapse.NO;
    private static final int NONE = FrameCollapse.NONE;
    private static final long GONE = FrameCollapse.GONE;

    public static void main(String[] args) {
        newObject();
        addNode();
        holdNode();
        addBar();
        liftBar();
        strengthenBar();
        loadNode();
        propertiesOfNode();
        propertiesOfBar();
        counts();
        mechanismSets();
        twists();
        bounds();
        kindsOfLimits();
        factors();
        nearFloats();
        bearing();
        moments();
        yielding();
        bindingMechanisms();
        spareStrengths();
        weakestBars();
        images();
        restoring();
        Check.end("PromiseTest");
    }

    private static void due(String what, long got, long want) {
        Check.due(what, got, want);
    }

    // ---- frames

    /** A bar of length 4 and strength 7 to the right of a fixed node; case 1 pulls its other end down by 3. */
    private static FrameCollapse cantilever() {
        FrameCollapse frame = new FrameCollapse();
        frame.node(1, 1, 2);
        frame.node(5, 1, 0);
        frame.bar(0, 1, 7);
        frame.load(1, 1, 0, -3);
        return frame;
    }

    /** A beam of two bars of length 2 and strength 3 between fixed nodes; case 1 pulls its middle down by 1. */
    private static FrameCollapse beam() {
        FrameCollapse frame = new FrameCollapse();
        frame.node(0, 0, 2);
        frame.node(2, 0, 0);
        frame.node(4, 0, 2);
        frame.bar(0, 1, 3);
        frame.bar(1, 2, 3);
        frame.load(1, 1, 0, -1);
        return frame;
    }

    /** Columns of strength 2 and length 3 on a pinned and a fixed node, a girder of strength 12 and length 4. */
    private static FrameCollapse portal() {
        FrameCollapse frame = new FrameCollapse();
        frame.node(0, 0, 1);
        frame.node(4, 0, 2);
        frame.node(0, 3, 0);
        frame.node(4, 3, 0);
        frame.bar(0, 2, 2);
        frame.bar(1, 3, 2);
        frame.bar(2, 3, 12);
        frame.load(1, 2, 1, 0);
        return frame;
    }

    /** A cantilever and a free node without bars. */
    private static FrameCollapse loose() {
        FrameCollapse frame = new FrameCollapse();
        frame.node(0, 0, 2);
        frame.node(1, 0, 0);
        frame.node(0, 1, 0);
        frame.bar(0, 1, 5);
        return frame;
    }

    /** Seven free nodes; six bars join the first four of them, which are in a row, each with each. */
    private static FrameCollapse looseRow() {
        FrameCollapse frame = new FrameCollapse();
        for (int n = 0; n < 7; n++) {
            frame.node(n < 4 ? n : n + 2, 0, 0);
        }
        for (int n = 0; n < 4; n++) {
            for (int to = n + 1; to < 4; to++) {
                frame.bar(n, to, 1);
            }
        }
        return frame;
    }

    // ---- the frame

    private static void newObject() {
        FrameCollapse frame = new FrameCollapse();
        for (int what = 0; what < 7; what++) {
            due("new count(" + what + ")", frame.count(what), 0);
        }
        due("new ofNode", frame.ofNode(0, 0), UNKNOWN);
        due("new ofBar", frame.ofBar(0, 0), UNKNOWN);
        due("new mechanism", frame.mechanism(0), UNKNOWN);
        due("new limits", frame.limits(1), 1);
        due("new factor", frame.factor(1, 0, 0), GONE + NO);
        due("new bears", frame.bears(99, -99, 1), 1);
        due("new weakest", frame.weakest(2), NO);
        due("new restore", frame.restore(0), NO);
        due("UNKNOWN", FrameCollapse.UNKNOWN, -1);
        due("OUTSIDE", FrameCollapse.OUTSIDE, -2);
        due("STATE", FrameCollapse.STATE, -3);
        due("FULL", FrameCollapse.FULL, -4);
        due("NO", FrameCollapse.NO, -5);
        due("NONE", FrameCollapse.NONE, -6);
        due("GONE", FrameCollapse.GONE, -4000000000000000000L);
    }

    private static void addNode() {
        FrameCollapse frame = new FrameCollapse();
        int[][] outside = {{-1, 0, 0}, {10, 0, 0}, {0, -1, 0}, {0, 10, 0}, {0, 0, -1}, {0, 0, 4}};
        for (int[] a : outside) {
            due("node outside", frame.node(a[0], a[1], a[2]), OUTSIDE);
        }
        due("no node was added", frame.count(0), 0);
        for (int n = 0; n < 7; n++) {
            due("node " + n, frame.node(n + 3, 9 - n, n % 4), n);
            due("node at the same point", frame.node(n + 3, 9 - n, 0), NO);
            due("node at the same point, wrong kind", frame.node(n + 3, 9 - n, 4), OUTSIDE);
        }
        due("node 8", frame.node(0, 0, 0), FULL);
        due("node 8 at a point that is taken", frame.node(9, 3, 0), NO);
        due("node 8 outside", frame.node(10, 3, 0), OUTSIDE);
        due("nodes", frame.count(0), 7);
        due("x of the last", frame.ofNode(6, 0), 9);
        due("y of the last", frame.ofNode(6, 1), 3);
        due("kind of the last", frame.ofNode(6, 2), 2);
    }

    private static void holdNode() {
        FrameCollapse frame = cantilever();
        due("hold unknown", frame.hold(2, 4), UNKNOWN);
        due("hold unknown, negative", frame.hold(-1, 0), UNKNOWN);
        due("hold outside", frame.hold(1, 4), OUTSIDE);
        due("hold outside, negative", frame.hold(1, -1), OUTSIDE);
        due("kind stays", frame.ofNode(1, 2), 0);
        due("motions of the cantilever", frame.count(3), 2);
        due("hold roller", frame.hold(1, 3), 0);
        due("motions on the roller", frame.count(3), 1);
        due("hold pinned", frame.hold(1, 1), 3);
        due("hold fixed", frame.hold(1, 2), 1);
        due("motions when all is fixed", frame.count(3), 0);
        due("loads stay", frame.ofNode(1, 6), -3);
        due("hold free", frame.hold(1, 0), 2);
    }

    private static void addBar() {
        FrameCollapse frame = new FrameCollapse();
        due("bar without nodes", frame.bar(0, 0, 0), UNKNOWN);
        for (int n = 0; n < 5; n++) {
            frame.node(2, n, 0);
        }
        frame.node(6, 4, 0);
        frame.node(7, 4, 0);
        due("bar to no node", frame.bar(0, 7, 13), UNKNOWN);
        due("bar from no node", frame.bar(-1, 0, 1), UNKNOWN);
        due("bar too weak", frame.bar(0, 1, 0), OUTSIDE);
        due("bar too strong", frame.bar(0, 1, 13), OUTSIDE);
        due("bar downward", frame.bar(1, 0, 1), OUTSIDE);
        due("bar to itself", frame.bar(1, 1, 1), OUTSIDE);
        due("bar askew", frame.bar(3, 5, 1), OUTSIDE);
        due("bar too long", frame.bar(4, 6, 1), OUTSIDE);
        due("bar to the left", frame.bar(5, 4, 1), OUTSIDE);
        due("bar of length 4 upward", frame.bar(0, 4, 12), 0);
        due("bar of length 4 to the right", frame.bar(4, 5, 1), 1);
        due("bar on a bar", frame.bar(0, 1, 2), 2);
        due("bar again", frame.bar(0, 4, 3), NO);
        due("bar again, too strong", frame.bar(0, 4, 13), OUTSIDE);
        frame.bar(1, 2, 3);
        frame.bar(2, 3, 3);
        due("bar 5", frame.bar(5, 6, 4), 5);
        due("bar 6", frame.bar(3, 4, 4), FULL);
        due("bar again when full", frame.bar(5, 6, 4), NO);
        due("bars", frame.count(1), 6);
    }

    private static void liftBar() {
        FrameCollapse frame = portal();
        due("lift unknown", frame.lift(3), UNKNOWN);
        due("lift negative", frame.lift(-1), UNKNOWN);
        frame.strengthen(1, 5);
        due("lift the first", frame.lift(0), 2);
        due("first node of bar 0 now", frame.ofBar(0, 0), 1);
        due("strength of bar 0 now", frame.ofBar(0, 4), 5);
        due("second node of bar 1 now", frame.ofBar(1, 1), 3);
        due("strength of bar 1 now", frame.ofBar(1, 4), 12);
        due("bar 2 is gone", frame.ofBar(2, 0), UNKNOWN);
        due("the pinned node turns freely", frame.count(2), 1);
        due("lift the last", frame.lift(1), 1);
        due("lift the only", frame.lift(0), 0);
        due("lift none", frame.lift(0), UNKNOWN);
        due("bars start anew", frame.bar(0, 2, 1), 0);
    }

    private static void strengthenBar() {
        FrameCollapse frame = cantilever();
        due("strengthen unknown", frame.strengthen(1, 13), UNKNOWN);
        due("strengthen negative", frame.strengthen(-1, 1), UNKNOWN);
        due("strengthen too little", frame.strengthen(0, 0), OUTSIDE);
        due("strengthen too much", frame.strengthen(0, 13), OUTSIDE);
        due("factor before", frame.factor(1, 0, 0), 7);
        due("strengthen to 12", frame.strengthen(0, 12), 7);
        due("factor after", frame.factor(1, 0, 0), 1);
        due("strengthen to 1", frame.strengthen(0, 1), 12);
        due("strength", frame.ofBar(0, 4), 1);
    }

    private static void loadNode() {
        FrameCollapse frame = portal();
        due("load unknown", frame.load(3, 4, 6, 0), UNKNOWN);
        due("load unknown, negative", frame.load(0, -1, 0, 0), UNKNOWN);
        int[][] outside = {{-1, 0, 0}, {3, 0, 0}, {0, -6, 0}, {0, 6, 0}, {0, 0, -6}, {0, 0, 6}};
        for (int[] a : outside) {
            due("load outside", frame.load(a[0], 0, a[1], a[2]), OUTSIDE);
        }
        due("load second of case 1", frame.load(1, 3, -5, 5), 2);
        due("load first of case 2", frame.load(2, 0, 0, 5), 1);
        due("load at a held node", frame.ofNode(0, 8), 5);
        due("load with zeros", frame.load(1, 2, 0, 0), 1);
        due("load with zeros again", frame.load(1, 2, 0, 0), 1);
        due("load the last with zeros", frame.load(1, 3, 0, 0), 0);
        due("case 2 stays", frame.load(2, 1, 0, 0), 1);
        due("case 0", frame.load(0, 1, 5, 0), 1);
        for (int c = 0; c < 3; c++) {
            FrameCollapse other = new FrameCollapse();
            other.node(0, 0, 0);
            other.node(1, 0, 0);
            due("only upward", other.load(c, 0, 0, 1), 1);
            due("only to the right", other.load(c, 1, 1, 0), 2);
            due("none of another case", other.load((c + 1) % 3, 0, 0, 0), 0);
            due("none of the third case", other.load((c + 2) % 3, 1, 0, 0), 0);
        }
    }

    private static void propertiesOfNode() {
        FrameCollapse frame = new FrameCollapse();
        frame.node(7, 8, 3);
        frame.load(0, 0, 1, -1);
        frame.load(1, 0, 2, -2);
        frame.load(2, 0, 3, -3);
        int[] wanted = {7, 8, 3, 1, -1, 2, -2, 3, -3};
        for (int what = 0; what < 9; what++) {
            due("ofNode(0, " + what + ")", frame.ofNode(0, what), wanted[what]);
        }
        due("ofNode outside", frame.ofNode(0, 9), OUTSIDE);
        due("ofNode negative", frame.ofNode(0, -1), OUTSIDE);
        due("ofNode unknown", frame.ofNode(1, 9), UNKNOWN);
        due("ofNode unknown, negative", frame.ofNode(-1, 0), UNKNOWN);
    }

    private static void propertiesOfBar() {
        FrameCollapse frame = portal();
        int[][] wanted = {{0, 2, 3, 1, 2}, {1, 3, 3, 1, 2}, {2, 3, 4, 0, 12}};
        for (int b = 0; b < 3; b++) {
            for (int what = 0; what < 5; what++) {
                due("ofBar(" + b + ", " + what + ")", frame.ofBar(b, what), wanted[b][what]);
            }
        }
        due("ofBar outside", frame.ofBar(0, 5), OUTSIDE);
        due("ofBar negative", frame.ofBar(0, -1), OUTSIDE);
        due("ofBar unknown", frame.ofBar(3, 5), UNKNOWN);
        due("ofBar unknown, negative", frame.ofBar(-1, 0), UNKNOWN);
    }

    private static void counts() {
        FrameCollapse frame = portal();
        int[] wanted = {4, 3, 0, 4, 2, 7, 0};
        for (int what = 0; what < 7; what++) {
            due("count(" + what + ")", frame.count(what), wanted[what]);
        }
        due("count outside", frame.count(7), OUTSIDE);
        due("count negative", frame.count(-1), OUTSIDE);
        frame = loose();
        due("loose", frame.count(2), 1);
        due("motions of the loose frame", frame.count(3), 5);
        due("self stresses of the loose frame", frame.count(4), 0);
        due("mechanisms of the loose frame", frame.count(5), STATE);
        frame.hold(2, 2);
        due("no longer loose", frame.count(2), 0);
        due("mechanisms of a cantilever", frame.count(5), 2);
        frame.hold(1, 2);
        due("self stresses of a bar between fixed nodes", frame.count(4), 3);
        due("no motion, not loose", frame.count(2), 0);
        due("no motion, no mechanism", frame.count(5), 0);
        frame = looseRow();
        due("motions of seven free nodes", frame.count(3), 18);
        due("self stresses of six bars in a row", frame.count(4), 9);
        frame = loose();
        for (int n = 0; n < 3; n++) {
            frame.hold(n, 1);
        }
        due("a pinned node without bars turns", frame.count(2), 1);
    }

    // ---- mechanisms

    private static void mechanismSets() {
        FrameCollapse frame = beam();
        // the middle node turns alone, or falls and turns with the second bar, or falls and turns with the first one
        int[] wanted = {6, 11, 13};
        due("mechanisms of the beam", frame.count(5), wanted.length);
        for (int i = 0; i < wanted.length; i++) {
            due("mechanism(" + i + ")", frame.mechanism(i), wanted[i]);
        }
        due("mechanism behind", frame.mechanism(3), UNKNOWN);
        due("mechanism negative", frame.mechanism(-1), UNKNOWN);
        due("mechanism of a loose frame", loose().mechanism(-1), STATE);
    }

    private static void twists() {
        FrameCollapse frame = beam();
        // mechanism 1: the middle falls and turns with the second bar
        int[] tops = {1, 2, 0, -1};
        for (int e = 0; e < 4; e++) {
            due("twist(1, " + e + ")", frame.twist(1, e, 0), tops[e]);
            due("twist(1, " + e + ") below", frame.twist(1, e, 1), 1);
        }
        frame.lift(1);
        frame.node(3, 0, 2);
        frame.bar(1, 3, 3);
        // lengths 2 and 1: slopes 1 and -2
        due("longer slopes", frame.mechanism(1), 11);
        due("twist of end 1", frame.twist(1, 1, 0), 3);
        due("twist of end 3", frame.twist(1, 3, 0), -2);
        due("mechanism 2", frame.mechanism(2), 13);
        due("twist of end 2", frame.twist(2, 2, 0), -3);
        frame.lift(0);
        frame.bar(0, 1, 3);
        due("bars the other way round", frame.mechanism(2), 14);
        due("a half, numerator", frame.twist(2, 2, 0), -1);
        due("a half, denominator", frame.twist(2, 2, 1), 2);
        due("twist outside", frame.twist(9, 9, 2), GONE + OUTSIDE);
        due("twist negative", frame.twist(0, 0, -1), GONE + OUTSIDE);
        due("twist of no mechanism", frame.twist(3, 0, 0), GONE + UNKNOWN);
        due("twist of no end", frame.twist(0, 4, 0), GONE + UNKNOWN);
        due("twist of a negative end", frame.twist(0, -1, 0), GONE + UNKNOWN);
        due("twist of a loose frame", loose().twist(9, 9, 0), GONE + STATE);
        due("twist of a loose frame, outside", loose().twist(9, 9, 2), GONE + OUTSIDE);
    }

    private static void bounds() {
        FrameCollapse frame = cantilever();
        frame.load(0, 1, 0, 2);
        // the free end falls by 4 per twist: 7 = 12 * f - 8
        int[] wanted = {5, 4, 1, 12};
        for (int what = 0; what < 4; what++) {
            due("bound(0, 1, " + what + ")", frame.bound(0, 1, what), wanted[what]);
        }
        due("bound without work", frame.bound(0, 2, 0), GONE + NO);
        due("bound of the end that bends nothing", frame.bound(1, 1, 0), GONE + NO);
        due("bound of case 0", frame.bound(0, 0, 0), GONE + OUTSIDE);
        due("bound of case 3", frame.bound(0, 3, 0), GONE + OUTSIDE);
        due("bound what 4", frame.bound(9, 1, 4), GONE + OUTSIDE);
        due("bound what -1", frame.bound(9, 1, -1), GONE + OUTSIDE);
        due("bound of no mechanism", frame.bound(2, 2, 0), GONE + UNKNOWN);
        due("bound of a negative mechanism", frame.bound(-1, 1, 0), GONE + UNKNOWN);
        due("bound of a loose frame", loose().bound(9, 1, 0), GONE + STATE);
        due("bound of a loose frame, outside", loose().bound(9, 0, 0), GONE + OUTSIDE);
    }

    // ---- factors

    private static void kindsOfLimits() {
        FrameCollapse frame = cantilever();
        due("limits 0", frame.limits(1), 0);
        due("limits 1", frame.limits(2), 1);
        frame.load(2, 1, 5, 0);
        due("an axial load is always borne", frame.limits(2), 1);
        frame.load(0, 1, 0, -2);
        due("steady loads too great", frame.limits(2), 2);
        due("case 1 lifts them", frame.limits(1), 0);
        due("limits of case 0", frame.limits(0), OUTSIDE);
        due("limits of case 3", frame.limits(3), OUTSIDE);
        due("limits of a loose frame", loose().limits(1), STATE);
        due("limits of a loose frame, outside", loose().limits(0), OUTSIDE);
        // two cantilevers: the loads of case 1 on one of them don't help the other one
        frame.node(1, 4, 2);
        frame.node(3, 4, 0);
        frame.bar(2, 3, 7);
        frame.load(1, 1, 0, 0);
        frame.load(1, 3, 0, 1);
        due("none, though the work of the case is not 0 everywhere", frame.limits(1), 2);
        // both lower and upper bounds, but no number between them
        frame.load(1, 1, 0, 1);
        frame.load(0, 3, 0, 4);
        frame.load(0, 1, 0, -4);
        due("bounds that exclude each other", frame.limits(1), 2);
        frame.strengthen(0, 9);
        frame.load(0, 1, 0, -3);
        frame.load(0, 3, 0, 2);
        frame.load(1, 3, 0, 2);
        frame.load(1, 1, 0, 1);
        // -9/4 <= f - 3 and 2 * f + 2 <= 7/2: both say 3/4
        due("a single factor", frame.limits(1), 0);
        due("its greatest, numerator", frame.factor(1, 0, 0), 3);
        due("its greatest, denominator", frame.factor(1, 0, 1), 4);
        due("its least, numerator", frame.factor(1, 1, 0), 3);
        due("its least, denominator", frame.factor(1, 1, 1), 4);
    }

    private static void factors() {
        FrameCollapse frame = beam();
        due("factor of the beam", frame.factor(1, 0, 0), 6);
        due("factor of the beam, denominator", frame.factor(1, 0, 1), 1);
        due("least factor", frame.factor(1, 1, 0), -6);
        frame.load(0, 1, 0, -4);
        due("factor with steady loads", frame.factor(1, 0, 0), 2);
        due("least factor with steady loads", frame.factor(1, 1, 0), -10);
        frame.load(1, 1, 0, -4);
        due("half", frame.factor(1, 0, 0), 1);
        due("half, denominator", frame.factor(1, 0, 1), 2);
        frame.load(1, 1, 0, 4);
        due("upward", frame.factor(1, 0, 0), 5);
        due("upward, least", frame.factor(1, 1, 0), -1);
        due("upward, least denominator", frame.factor(1, 1, 1), 2);
        frame.load(1, 1, 0, -4);
        frame.strengthen(1, 1);
        // hinges of strength 3, 1, 1: the node turns with the first bar
        frame.load(0, 1, 0, -3);
        due("0 is 0 / 1", frame.factor(1, 0, 0), 0);
        due("0 is 0 / 1, denominator", frame.factor(1, 0, 1), 1);
        due("factor what 2", frame.factor(1, 0, 2), GONE + OUTSIDE);
        due("factor what -1", frame.factor(1, 0, -1), GONE + OUTSIDE);
        due("factor side 2", frame.factor(1, 2, 0), GONE + OUTSIDE);
        due("factor side -1", frame.factor(1, -1, 0), GONE + OUTSIDE);
        due("factor case 0", frame.factor(0, 0, 0), GONE + OUTSIDE);
        due("factor case 3", frame.factor(3, 0, 0), GONE + OUTSIDE);
        due("factor of no loads", frame.factor(2, 0, 0), GONE + NO);
        due("factor of a loose frame", loose().factor(1, 0, 0), GONE + STATE);
        due("factor of a loose frame, outside", loose().factor(1, 0, 2), GONE + OUTSIDE);
    }

    private static void nearFloats() {
        FrameCollapse frame = cantilever();
        due("near 7 / 12", frame.near(1, 0), Float.floatToIntBits(7f / 12f));
        due("near -7 / 12", frame.near(1, 1), Float.floatToIntBits(-7f / 12f));
        frame.load(0, 1, 0, 2);
        due("near 5 / 4", frame.near(1, 0), Float.floatToIntBits(1.25f));
        due("near 1 / 12", frame.near(1, 1), Float.floatToIntBits(1f / 12f));
        frame = beam();
        frame.load(0, 1, 0, -5);
        due("near 1", frame.near(1, 0), 0x3f800000);
        due("near -11", frame.near(1, 1), Float.floatToIntBits(-11f));
        frame.load(1, 1, 0, -5);
        due("near 1 / 5", frame.near(1, 0), Float.floatToIntBits(0.2f));
        frame.strengthen(0, 1);
        frame.strengthen(1, 3);
        frame.load(0, 1, 0, -3);
        due("near 0", frame.near(1, 0), 0);
        due("near -6 / 5", frame.near(1, 1), Float.floatToIntBits(-6f / 5f));
        due("near of case 0", frame.near(0, 0), OUTSIDE);
        due("near of side 2", frame.near(1, 2), OUTSIDE);
        due("near of no loads", frame.near(2, 0), NO);
        due("near of a loose frame", loose().near(1, 0), STATE);
        due("near of a loose frame, outside", loose().near(3, 0), OUTSIDE);
    }

    private static void bearing() {
        FrameCollapse frame = beam();
        frame.load(0, 1, 0, -1);
        frame.load(2, 1, 2, 2);
        due("bears just", frame.bears(5, 0, 1), 1);
        due("bears no more", frame.bears(51, 0, 10), 0);
        due("bears downward and upward", frame.bears(99, 99, 20), 1);
        due("bears just, upward", frame.bears(-7, 0, 1), 1);
        due("bears no more, upward", frame.bears(-71, 0, 10), 0);
        due("bears case 2 just", frame.bears(0, 7, 2), 1);
        due("bears case 2 no more", frame.bears(0, 71, 20), 0);
        due("bears the steady loads", frame.bears(0, 0, 99), 1);
        int[][] outside = {{100, 0, 1}, {-100, 0, 1}, {0, 100, 1}, {0, -100, 1}, {0, 0, 0}, {0, 0, 100}, {0, 0, -1}};
        for (int[] a : outside) {
            due("bears outside", frame.bears(a[0], a[1], a[2]), OUTSIDE);
            due("bears outside, loose", loose().bears(a[0], a[1], a[2]), OUTSIDE);
        }
        due("bears of a loose frame", loose().bears(0, 0, 1), STATE);
    }

    private static void dueMoments(String what, FrameCollapse frame, int end, int[] wanted) {
        for (int k = 0; k < 4; k++) {
            due(what + " end " + end + " what " + k, frame.moment(1, 0, end, k), wanted[k]);
        }
    }

    private static void moments() {
        dueMoments("beam", beam(), 0, new int[] {3, 1, 3, 1});
        dueMoments("beam", beam(), 1, new int[] {3, 1, 3, 1});
        dueMoments("beam", beam(), 2, new int[] {-3, 1, -3, 1});
        // the portal's columns fail: 2 at the head of the pinned one, 2 at both ends of the fixed one
        FrameCollapse frame = portal();
        due("factor of the portal", frame.factor(1, 0, 0), 2);
        dueMoments("portal", frame, 0, new int[] {0, 1, 0, 1});
        dueMoments("portal", frame, 1, new int[] {2, 1, 2, 1});
        dueMoments("portal", frame, 4, new int[] {-2, 1, -2, 1});
        due("least side", frame.moment(1, 1, 1, 0), -2);
        // a second fixed beam, not loaded, keeps all its moments open
        frame = beam();
        frame.node(0, 3, 2);
        frame.node(4, 3, 2);
        frame.bar(3, 4, 5);
        dueMoments("idle bar", frame, 4, new int[] {5, 1, -5, 1});
        frame.strengthen(2, 1);
        dueMoments("idle bar", frame, 5, new int[] {1, 1, -1, 1});
        due("moment of no end", frame.moment(0, 2, 6, 4), GONE + UNKNOWN);
        due("moment of a negative end", frame.moment(1, 0, -1, 0), GONE + UNKNOWN);
        due("moment of case 0", frame.moment(0, 0, 0, 0), GONE + OUTSIDE);
        due("moment of side 2", frame.moment(1, 2, 0, 0), GONE + OUTSIDE);
        due("moment what 4", frame.moment(1, 0, 0, 4), GONE + OUTSIDE);
        due("moment what -1", frame.moment(1, 0, 0, -1), GONE + OUTSIDE);
        due("moment of no loads", frame.moment(2, 0, 0, 0), GONE + NO);
        due("moment of a loose frame", loose().moment(1, 0, 0, 0), GONE + STATE);
        due("moment of a loose frame, no end", loose().moment(1, 0, 2, 0), GONE + UNKNOWN);
        due("moment of a loose frame, outside", loose().moment(1, 0, 0, 4), GONE + OUTSIDE);
    }

    private static void yielding() {
        due("beam yields", beam().yields(1, 0), 15);
        due("beam yields upward", beam().yields(1, 1), 15);
        due("cantilever yields", cantilever().yields(1, 0), 1);
        due("portal yields at the ends of the columns", portal().yields(1, 0), 14);
        FrameCollapse frame = beam();
        frame.strengthen(1, 4);
        due("the stronger bar does not yield at the joint", frame.yields(1, 0), 11);
        due("yields of case 0", frame.yields(0, 0), OUTSIDE);
        due("yields of side -1", frame.yields(1, -1), OUTSIDE);
        due("yields of no loads", frame.yields(2, 0), NO);
        due("yields of a loose frame", loose().yields(1, 0), STATE);
        due("yields of a loose frame, outside", loose().yields(1, 2), OUTSIDE);
    }

    private static void bindingMechanisms() {
        FrameCollapse frame = beam();
        due("both falling mechanisms are critical", frame.binding(1, 0, 0), 2);
        due("the lowest of them", frame.binding(1, 0, 1), 1);
        frame.strengthen(0, 4);
        due("with a stronger first bar one", frame.binding(1, 0, 0), 1);
        due("the other one", frame.binding(1, 1, 1), 2);
        frame = beam();
        // a cantilever that steady loads just bring to yield, without work of case 1
        frame.node(0, 4, 2);
        frame.node(1, 4, 0);
        frame.bar(3, 4, 4);
        frame.load(0, 4, 0, 4);
        due("critical without work of the case", frame.binding(1, 0, 0), 3);
        due("binding what 2", frame.binding(1, 0, 2), OUTSIDE);
        due("binding what -1", frame.binding(1, 0, -1), OUTSIDE);
        due("binding of side 2", frame.binding(1, 2, 0), OUTSIDE);
        due("binding of case 3", frame.binding(3, 0, 0), OUTSIDE);
        due("binding of no loads", frame.binding(2, 0, 0), NO);
        due("binding of a loose frame", loose().binding(1, 0, 0), STATE);
        due("binding of a loose frame, outside", loose().binding(1, 0, 2), OUTSIDE);
    }

    // ---- strengths

    private static void spareStrengths() {
        FrameCollapse frame = portal();
        due("spare of the girder", frame.spare(1, 2), 10);
        due("spare of a column", frame.spare(1, 0), 0);
        frame = beam();
        frame.strengthen(0, 5);
        due("no spare at the wall", frame.spare(1, 0), 0);
        // an idle cantilever can lose all but 1, unless steady loads need it
        frame.node(0, 4, 2);
        frame.node(1, 4, 0);
        frame.bar(3, 4, 9);
        due("spare of an idle bar", frame.spare(1, 2), 8);
        frame.load(0, 4, 0, 4);
        due("spare of a bar with steady loads", frame.spare(1, 2), 5);
        due("strength is as before", frame.ofBar(2, 4), 9);
        frame.strengthen(2, 1);
        frame.load(0, 4, 0, 1);
        due("spare of strength 1", frame.spare(1, 2), 0);
        due("spare of no bar", frame.spare(0, 3), UNKNOWN);
        due("spare of a negative bar", frame.spare(1, -1), UNKNOWN);
        due("spare of case 0", frame.spare(0, 0), OUTSIDE);
        due("spare of case 3", frame.spare(3, 0), OUTSIDE);
        due("spare of no loads", frame.spare(2, 0), NO);
        due("spare of a loose frame", loose().spare(1, 0), STATE);
        due("spare of a loose frame, no bar", loose().spare(1, 1), UNKNOWN);
        due("spare of a loose frame, outside", loose().spare(0, 0), OUTSIDE);
    }

    private static void weakestBars() {
        due("weakest of two equal bars", beam().weakest(1), 0);
        FrameCollapse frame = beam();
        frame.strengthen(0, 4);
        due("weakest is the second bar", frame.weakest(1), 1);
        due("weakest of the portal", portal().weakest(1), 1);
        frame = cantilever();
        frame.strengthen(0, 12);
        due("13 is possible", frame.weakest(1), 0);
        // two equal cantilevers side by side: one alone does not help
        frame.node(1, 4, 2);
        frame.node(5, 4, 0);
        frame.bar(2, 3, 12);
        frame.load(1, 3, 0, -3);
        due("none helps alone", frame.weakest(1), NONE);
        due("weakest of case 0", frame.weakest(0), OUTSIDE);
        due("weakest of case 3", frame.weakest(3), OUTSIDE);
        due("weakest of no loads", frame.weakest(2), NO);
        due("weakest of a loose frame", loose().weakest(1), STATE);
        due("weakest of a loose frame, outside", loose().weakest(0), OUTSIDE);
    }

    // ---- images

    private static void images() {
        FrameCollapse frame = beam();
        due("image outside", frame.image(2), OUTSIDE);
        due("image negative", frame.image(-1), OUTSIDE);
        due("nothing kept", frame.count(6), 0);
        due("image 1", frame.image(1), 1);
        due("kept", frame.count(6), 2);
        due("image 0", frame.image(0), 1);
        due("both kept", frame.count(6), 3);
        frame.strengthen(0, 9);
        due("image 0 again", frame.image(0), 1);
        frame.strengthen(0, 8);
        frame.restore(0);
        due("the later image", frame.ofBar(0, 4), 9);
        frame.restore(1);
        due("the other image", frame.ofBar(0, 4), 3);
    }

    private static void restoring() {
        FrameCollapse frame = beam();
        due("restore outside", frame.restore(2), OUTSIDE);
        due("restore negative", frame.restore(-1), OUTSIDE);
        due("restore nothing", frame.restore(1), NO);
        frame.image(0);
        frame.node(9, 9, 0);
        frame.load(1, 3, 5, 5);
        frame.load(1, 1, 1, 1);
        frame.hold(0, 1);
        frame.lift(0);
        due("changed", frame.count(2), 1);
        due("restore", frame.restore(0), 1);
        due("nodes again", frame.count(0), 3);
        due("bars again", frame.count(1), 2);
        due("kind again", frame.ofNode(0, 2), 2);
        due("load again", frame.ofNode(1, 6), -1);
        due("factor again", frame.factor(1, 0, 0), 6);
        frame.strengthen(1, 12);
        due("it stays there", frame.restore(0), 1);
        due("strength again", frame.ofBar(1, 4), 3);
        due("a new node has no loads", frame.node(9, 9, 0), 3);
        due("horizontal", frame.ofNode(3, 5), 0);
        due("vertical", frame.ofNode(3, 6), 0);
        FrameCollapse empty = new FrameCollapse();
        empty.image(1);
        empty.node(0, 0, 0);
        due("restore the empty frame", empty.restore(1), 1);
        due("no nodes", empty.count(0), 0);
    }
}
