import java.util.ArrayList;
import java.util.List;

/**
 * "A call that returns an error changes nothing": after each refused call of each method the object answers everything
 * as one that was not so called, also what it keeps in its images. Nor do questions change anything.
 */
public final class RefusalTest {
    private static final int CALLS = 512;

    public static void main(String[] args) {
        for (int sort = 0; sort < 5; sort++) {
            List<long[]> before = answersOfAll(sort, -1, null);
            changeNothing(sort, before, "node", new int[][] {{10, 0, 0}, {0, -1, 0}, {8, 8, 4}, {0, 0, 0}});
            changeNothing(sort, before, "hold", new int[][] {{7, 1}, {-1, 1}, {1, 4}, {0, -1}});
            changeNothing(sort, before, "bar", new int[][] {{0, 7, 3}, {-1, 0, 3}, {0, 1, 13}, {0, 1, 0}, {1, 0, 3},
                {0, 0, 3}, {0, 1, 9}, {0, 4, 1}});
            changeNothing(sort, before, "lift", new int[][] {{6}, {-1}, {Integer.MIN_VALUE}});
            changeNothing(sort, before, "strengthen", new int[][] {{6, 5}, {-1, 5}, {0, 0}, {0, 13}});
            changeNothing(sort, before, "load", new int[][] {{0, 7, 1, 1}, {0, -1, 1, 1}, {3, 1, 1, 1}, {-1, 1, 1, 1},
                {1, 1, 6, 1}, {1, 1, 1, -6}, {1, 1, -6, 0}, {2, 0, 1, 6}});
            changeNothing(sort, before, "image", new int[][] {{2}, {-1}, {3}});
            changeNothing(sort, before, "restore", new int[][] {{2}, {-1}, {3}});
            changeNothing(sort, before, "count", new int[][] {{-1}, {7}, {5}});
            changeNothing(sort, before, "ofNode", new int[][] {{7, 0}, {0, 9}, {1, 4}});
            changeNothing(sort, before, "ofBar", new int[][] {{6, 0}, {0, 5}, {1, 4}});
            changeNothing(sort, before, "mechanism", new int[][] {{-1}, {1000}, {1}});
            changeNothing(sort, before, "twist", new int[][] {{0, 0, 2}, {-1, 0, 0}, {0, 12, 0}, {1, 2, 1}});
            changeNothing(sort, before, "bound", new int[][] {{0, 3, 0}, {-1, 1, 0}, {0, 1, 4}, {1, 1, 3}});
            changeNothing(sort, before, "limits", new int[][] {{0}, {3}, {1}});
            changeNothing(sort, before, "factor", new int[][] {{0, 0, 0}, {1, 2, 0}, {1, 0, 2}, {1, 1, 1}});
            changeNothing(sort, before, "near", new int[][] {{0, 0}, {1, 2}, {1, 1}});
            changeNothing(sort, before, "bears", new int[][] {{100, 0, 1}, {0, 0, 0}, {50, -50, 7}});
            changeNothing(sort, before, "moment", new int[][] {{1, 0, -1, 0}, {1, 0, 0, 4}, {3, 0, 0, 0}, {1, 1, 1, 1}});
            changeNothing(sort, before, "yields", new int[][] {{0, 0}, {1, 2}, {1, 1}});
            changeNothing(sort, before, "binding", new int[][] {{0, 0, 0}, {1, 0, 2}, {1, 1, 1}});
            changeNothing(sort, before, "spare", new int[][] {{1, 6}, {0, 0}, {1, 0}, {2, 1}});
            changeNothing(sort, before, "weakest", new int[][] {{0}, {1}, {2}});
        }
        Check.end("RefusalTest");
    }

    /** Empty; loose; with limit factors and both images; full, with image 1; with neither factors nor images. */
    private static FrameCollapse frame(int sort) {
        FrameCollapse frame = new FrameCollapse();
        if (sort == 0) {
            return frame;
        }
        frame.node(0, 0, sort == 1 ? 3 : 2);
        if (sort == 2) {
            frame.image(1);
        }
        frame.node(2, 0, 0);
        frame.node(4, 0, 2);
        frame.bar(0, 1, 3);
        frame.bar(1, 2, 4);
        frame.load(1, 1, 2, -2);
        frame.load(2, 1, 0, 3);
        if (sort == 1 || sort == 2) {
            frame.image(0);
            frame.load(0, 1, 1, -1);
        }
        if (sort == 1) {
            frame.node(8, 8, 0);
            frame.node(8, 9, 0);
            frame.node(4, 2, 0);
        }
        if (sort == 3) {
            fill(frame);
        }
        if (sort == 4) {
            frame.load(0, 1, 0, 5);
            frame.load(1, 1, 0, 0);
            frame.load(2, 1, 0, 0);
            frame.strengthen(0, 1);
            frame.strengthen(1, 1);
            frame.hold(2, 3);
        }
        return frame;
    }

    private static void fill(FrameCollapse frame) {
        frame.image(1);
        frame.node(0, 2, 0);
        frame.node(2, 2, 0);
        frame.node(0, 4, 1);
        frame.node(2, 4, 2);
        frame.bar(0, 3, 2);
        frame.bar(1, 4, 5);
        frame.bar(3, 4, 6);
        frame.bar(4, 6, 1);
        frame.load(2, 3, 4, 1);
    }

    private static boolean isQuestion(String name) {
        return Calls.named(name) >= Calls.named("ofNode") && Calls.named(name) <= Calls.named("weakest");
    }

    /** Calls that are no question and not refused in this frame are left out: they may change it. */
    private static void changeNothing(int sort, List<long[]> before, String name, int[][] calls) {
        int method = Calls.named(name);
        for (int[] a : calls) {
            if (!isQuestion(name) && Calls.send(frame(sort), method, a) >= 0) {
                continue;
            }
            List<long[]> after = answersOfAll(sort, method, a);
            for (int k = 0; k < before.size(); k++) {
                for (int i = 0; i < before.get(k).length; i++) {
                    Check.due("frame " + sort + " after " + Calls.text(method, a) + ", view " + k + " answer " + i,
                        after.get(k)[i], before.get(k)[i]);
                }
            }
        }
    }

    /** Asks new objects, of which each was called so once: as it is, or after it restores an image. */
    private static List<long[]> answersOfAll(int sort, int method, int[] a) {
        List<long[]> answers = new ArrayList<>();
        for (int view = 0; view < 3; view++) {
            FrameCollapse frame = frame(sort);
            if (method >= 0) {
                Calls.send(frame, method, a);
            }
            long restored = view == 0 ? 0 : frame.restore(view - 1);
            answers.add(answersOf(frame, restored));
        }
        return answers;
    }

    /** As many answers as the 512 calls allow, with those about the state first. */
    private static long[] answersOf(FrameCollapse frame, long restored) {
        long[] answers = new long[CALLS];
        int[] at = {0};
        answers[at[0]++] = restored;
        for (int what = 0; what < 7; what++) {
            answers[at[0]++] = frame.count(what);
        }
        int nodes = frame.count(0);
        int bars = frame.count(1);
        for (int n = 0; n < nodes; n++) {
            for (int what = 0; what < 9; what++) {
                answers[at[0]++] = frame.ofNode(n, what);
            }
        }
        for (int b = 0; b < bars; b++) {
            for (int what = 0; what < 5; what++) {
                answers[at[0]++] = frame.ofBar(b, what);
            }
            answers[at[0]++] = frame.spare(1, b);
            answers[at[0]++] = frame.spare(2, b);
        }
        askAboutFactors(frame, bars, answers, at);
        int mechanisms = Math.min(frame.count(5), 12);
        for (int i = 0; i < mechanisms; i++) {
            answers[at[0]++] = frame.mechanism(i);
            for (int k = 0; k < 4; k++) {
                answers[at[0]++] = frame.twist(i, k, k % 2);
                answers[at[0]++] = frame.bound(i, 1 + k % 2, k);
            }
        }
        return answers;
    }

    private static void askAboutFactors(FrameCollapse frame, int bars, long[] answers, int[] at) {
        for (int c = 1; c < 3; c++) {
            answers[at[0]++] = frame.limits(c);
            answers[at[0]++] = frame.weakest(c);
            answers[at[0]++] = frame.bears(c, 3 - c, 2);
            for (int side = 0; side < 2; side++) {
                answers[at[0]++] = frame.factor(c, side, 0);
                answers[at[0]++] = frame.factor(c, side, 1);
                answers[at[0]++] = frame.near(c, side);
                answers[at[0]++] = frame.yields(c, side);
                answers[at[0]++] = frame.binding(c, side, 0);
                answers[at[0]++] = frame.binding(c, side, 1);
                for (int end = 0; end < 2 * bars; end++) {
                    answers[at[0]++] = frame.moment(c, side, end, 0);
                    answers[at[0]++] = frame.moment(c, side, end, 2);
                }
            }
        }
    }
}
