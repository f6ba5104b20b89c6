/**
 * Long random histories of calls on one object: after each change all answers must be those of a new object that is
 * brought straight to the same state; a plain model tells what the changes answer and what the images keep.
 */
public final class HistoryTest {
    private static final int HISTORIES = 40;

    public static void main(String[] args) {
        for (int k = 0; k < HISTORIES; k++) {
            runHistory(k);
        }
        throwNothing();
        Check.end("HistoryTest");
    }

    private static void runHistory(int seed) {
        RandomFrames random = new RandomFrames(5000 + seed);
        FrameCollapse frame = seed % 4 == 0 ? new FrameCollapse() : random.frame();
        FrameCollapse[] kept = new FrameCollapse[2];
        for (int step = 0; step < 60; step++) {
            String what = "history " + seed + " step " + step;
            int k = random.next(2);
            switch (random.next(12)) {
                case 0:
                    Check.due(what + " image", frame.image(k), 1);
                    kept[k] = copyOf(frame);
                    break;
                case 1:
                    Check.due(what + " restore", frame.restore(k), kept[k] == null ? FrameCollapse.NO : 1);
                    if (kept[k] != null) {
                        compare(what + " restored", frame, kept[k]);
                    }
                    break;
                default:
                    change(frame, random);
            }
            Check.due(what + " count(6)", frame.count(6), (kept[0] == null ? 0 : 1) + (kept[1] == null ? 0 : 2));
            compare(what, frame, copyOf(frame));
        }
    }

    private static void change(FrameCollapse frame, RandomFrames random) {
        int node = random.between(-1, frame.count(0));
        int bar = random.between(-1, frame.count(1));
        switch (random.next(8)) {
            case 0: frame.node(random.between(-1, 4), random.between(-1, 4), random.between(-1, 4)); break;
            case 1: frame.hold(node, random.between(-1, 4)); break;
            case 2:
            case 3: frame.bar(node, random.between(-1, frame.count(0)), random.between(0, 13)); break;
            case 4: frame.lift(bar); break;
            case 5: frame.strengthen(bar, random.between(0, 13)); break;
            default: frame.load(random.between(-1, 3), node, random.between(-6, 6), random.between(-6, 6));
        }
    }

    private static FrameCollapse copyOf(FrameCollapse frame) {
        FrameCollapse copy = new FrameCollapse();
        for (int n = 0; n < frame.count(0); n++) {
            copy.node(frame.ofNode(n, 0), frame.ofNode(n, 1), frame.ofNode(n, 2));
            for (int c = 0; c < 3; c++) {
                copy.load(c, n, frame.ofNode(n, 3 + 2 * c), frame.ofNode(n, 4 + 2 * c));
            }
        }
        for (int b = 0; b < frame.count(1); b++) {
            copy.bar(frame.ofBar(b, 0), frame.ofBar(b, 1), frame.ofBar(b, 4));
        }
        return copy;
    }

    private static void compare(String what, FrameCollapse frame, FrameCollapse copy) {
        for (int k = 0; k < 6; k++) {
            Check.due(what + " count(" + k + ")", frame.count(k), copy.count(k));
        }
        for (int n = 0; n < 7; n++) {
            for (int k = 0; k < 9; k++) {
                Check.due(what + " ofNode", frame.ofNode(n, k), copy.ofNode(n, k));
                Check.due(what + " ofBar", frame.ofBar(n, k), copy.ofBar(n, k));
            }
        }
        int last = copy.count(5) - 1;
        Check.due(what + " mechanism", frame.mechanism(last), copy.mechanism(last));
        for (int c = 1; c < 3; c++) {
            Check.due(what + " limits", frame.limits(c), copy.limits(c));
            Check.due(what + " bound", frame.bound(last, c, 0), copy.bound(last, c, 0));
            Check.due(what + " weakest", frame.weakest(c), copy.weakest(c));
            Check.due(what + " spare", frame.spare(c, 0), copy.spare(c, 0));
            for (int side = 0; side < 2; side++) {
                Check.due(what + " factor", frame.factor(c, side, 0), copy.factor(c, side, 0));
                Check.due(what + " near", frame.near(c, side), copy.near(c, side));
                Check.due(what + " yields", frame.yields(c, side), copy.yields(c, side));
                Check.due(what + " binding", frame.binding(c, side, 0), copy.binding(c, side, 0));
                Check.due(what + " moment", frame.moment(c, side, 1, 2), copy.moment(c, side, 1, 2));
            }
        }
        Check.due(what + " bears", frame.bears(1, -2, 3), copy.bears(1, -2, 3));
        Check.due(what + " twist", frame.twist(last, 1, 0), copy.twist(last, 1, 0));
    }

    /** Any arguments, in an empty, a loose and a rigid frame, are answered and change nothing. */
    private static void throwNothing() {
        int[] values = {Integer.MIN_VALUE, -1, 0, 1, 2, 3, 4, 7, 9, 12, 13, 14, 100, Integer.MAX_VALUE};
        FrameCollapse empty = new FrameCollapse();
        FrameCollapse loose = new FrameCollapse();
        loose.node(0, 0, 0);
        FrameCollapse rigid = new RandomFrames(353).frame();
        for (FrameCollapse frame : new FrameCollapse[] {empty, loose, rigid}) {
            FrameCollapse before = copyOf(frame);
            for (int a : values) {
                for (int b : values) {
                    for (int c : values) {
                        ask(frame, a, b, c);
                    }
                }
            }
            compare("any arguments", frame, before);
        }
    }

    private static void ask(FrameCollapse frame, int a, int b, int c) {
        frame.count(a);
        frame.mechanism(a);
        frame.twist(a, b, c);
        frame.bound(a, b, c);
        frame.limits(a);
        frame.factor(a, b, c);
        frame.near(a, b);
        frame.bears(a, b, c);
        frame.moment(1, a, b, c);
        frame.moment(a, 1, b, c);
        frame.yields(a, b);
        frame.binding(a, b, c);
        frame.spare(a, b);
        frame.weakest(a);
        frame.ofNode(a, b);
        frame.ofBar(a, b);
    }
}
