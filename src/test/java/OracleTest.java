import java.util.ArrayList;
import java.util.List;

/** Compares all answers for many frames with those of the oracle. An argument gives another number of frames. */
public final class OracleTest {
    private static final long GONE = FrameCollapse.GONE;
    private static final int STATE = FrameCollapse.STATE;
    private static final int NO = FrameCollapse.NO;

    public static void main(String[] args) {
        int first = args.length > 1 ? Integer.parseInt(args[1]) : 0;
        int frames = args.length > 0 ? Integer.parseInt(args[0]) : 150;
        int loose = 0;
        int[] kinds = new int[3];
        for (int k = first; k < first + frames; k++) {
            RandomFrames random = new RandomFrames(k);
            FrameCollapse frame = random.frame();
            Oracle oracle = new Oracle(frame);
            String name = "frame " + k;
            compareShape(name, frame, oracle);
            if (oracle.looseness() > 0) {
                loose++;
                continue;
            }
            List<Ratio[]> motions = compareMechanisms(name, frame, oracle);
            for (int c = 1; c < 3; c++) {
                compareBounds(name, frame, oracle, motions, c);
                kinds[compareFactors(name, frame, oracle, motions, c, random)]++;
            }
            compareBears(name, frame, oracle, random);
        }
        System.out.println(loose + " loose; bounded " + kinds[0] + ", all " + kinds[1] + ", none " + kinds[2]);
        Check.end("OracleTest");
    }

    private static void due(String what, long got, long want) {
        Check.due(what, got, want);
    }

    private static void dueRatio(String what, long numerator, long denominator, Ratio want) {
        due(what + " numerator", numerator, want.top.longValueExact());
        due(what + " denominator", denominator, want.bottom.longValueExact());
    }

    private static void compareShape(String name, FrameCollapse frame, Oracle oracle) {
        int loose = oracle.looseness();
        due(name + " count(2)", frame.count(2), loose > 0 ? 1 : 0);
        due(name + " count(3)", frame.count(3), oracle.motions.size());
        due(name + " count(4)", frame.count(4), oracle.selfStresses());
        if (loose > 0) {
            due(name + " count(5)", frame.count(5), STATE);
            due(name + " mechanism(0)", frame.mechanism(0), STATE);
            due(name + " limits(1)", frame.limits(1), STATE);
            due(name + " bears", frame.bears(0, 0, 1), STATE);
        }
    }

    private static List<Ratio[]> compareMechanisms(String name, FrameCollapse frame, Oracle oracle) {
        List<Integer> sets = new ArrayList<>();
        List<Ratio[]> motions = oracle.mechanismMotions(sets);
        due(name + " count(5)", frame.count(5), sets.size());
        for (int i = 0; i < sets.size(); i++) {
            due(name + " mechanism(" + i + ")", frame.mechanism(i), sets.get(i));
            Ratio[] twist = oracle.twistsIn(motions.get(i));
            Ratio lowest = twist[Integer.numberOfTrailingZeros(sets.get(i))];
            for (int e = 0; e < oracle.ends; e++) {
                dueRatio(name + " twist " + i + " " + e, frame.twist(i, e, 0), frame.twist(i, e, 1),
                    twist[e].over(lowest));
            }
        }
        due(name + " mechanism behind", frame.mechanism(sets.size()), FrameCollapse.UNKNOWN);
        return motions;
    }

    private static void compareBounds(String name, FrameCollapse frame, Oracle oracle, List<Ratio[]> motions, int c) {
        for (int i = 0; i < motions.size(); i++) {
            Ratio work = oracle.work(motions.get(i), c);
            String what = name + " bound " + i + " " + c;
            if (work.isZero()) {
                due(what, frame.bound(i, c, 0), GONE + NO);
                continue;
            }
            Ratio strain = oracle.strain(motions.get(i));
            Ratio steady = oracle.work(motions.get(i), 0).times(Ratio.of(work.sign()));
            Ratio size = work.size();
            dueRatio(what, frame.bound(i, c, 0), frame.bound(i, c, 1), strain.minus(steady).over(size));
            dueRatio(what, frame.bound(i, c, 2), frame.bound(i, c, 3), strain.negated().minus(steady).over(size));
        }
    }

    private static int compareFactors(String name, FrameCollapse frame, Oracle oracle, List<Ratio[]> motions, int c,
            RandomFrames random) {
        Ratio[] limits = new Ratio[2];
        int kind = oracle.factors(c, limits);
        due(name + " limits(" + c + ")", frame.limits(c), kind);
        for (int side = 0; side < 2; side++) {
            String what = name + " case " + c + " side " + side;
            if (kind != 0) {
                due(what + " factor", frame.factor(c, side, 0), GONE + NO);
                due(what + " near", frame.near(c, side), NO);
                due(what + " yields", frame.yields(c, side), NO);
                due(what + " binding", frame.binding(c, side, 0), NO);
                due(what + " spare", oracle.bars > 0 ? frame.spare(c, 0) : NO, NO);
                due(what + " weakest", frame.weakest(c), NO);
                continue;
            }
            dueRatio(what, frame.factor(c, side, 0), frame.factor(c, side, 1), limits[side]);
            float top = limits[side].top.floatValue();
            due(what + " near", frame.near(c, side), Float.floatToIntBits(top / limits[side].bottom.floatValue()));
            compareCritical(what, frame, oracle, motions, c, side, limits[side]);
            if (random.next(3) == 0) {
                compareMoments(what, frame, oracle, c, side, limits[side]);
            }
        }
        if (kind == 0) {
            compareStrengths(name, frame, oracle, c, limits[0]);
        }
        return kind;
    }

    private static void compareCritical(String what, FrameCollapse frame, Oracle oracle, List<Ratio[]> motions, int c,
            int side, Ratio factor) {
        int critical = 0;
        int lowest = FrameCollapse.NONE;
        for (int i = motions.size() - 1; i >= 0; i--) {
            Ratio work = oracle.work(motions.get(i), 0).plus(factor.times(oracle.work(motions.get(i), c)));
            if (work.size().compareTo(oracle.strain(motions.get(i))) == 0) {
                critical++;
                lowest = i;
            }
        }
        due(what + " binding 0", frame.binding(c, side, 0), critical);
        due(what + " binding 1", frame.binding(c, side, 1), lowest);
    }

    private static void compareMoments(String what, FrameCollapse frame, Oracle oracle, int c, int side,
            Ratio factor) {
        Ratio[] moments = oracle.moments(c, factor);
        int yielding = 0;
        for (int e = 0; e < oracle.ends; e++) {
            Ratio strength = Ratio.of(oracle.bar[e / 2][4]);
            dueRatio(what + " most of " + e, frame.moment(c, side, e, 0), frame.moment(c, side, e, 1), moments[2 * e]);
            dueRatio(what + " least of " + e, frame.moment(c, side, e, 2), frame.moment(c, side, e, 3),
                moments[2 * e + 1]);
            boolean up = moments[2 * e + 1].compareTo(strength) == 0;
            boolean down = moments[2 * e].compareTo(strength.negated()) == 0;
            yielding |= up || down ? 1 << e : 0;
        }
        due(what + " yields", frame.yields(c, side), yielding);
    }

    private static void compareStrengths(String name, FrameCollapse frame, Oracle oracle, int c, Ratio factor) {
        int weakest = FrameCollapse.NONE;
        Ratio best = factor;
        for (int b = 0; b < oracle.bars; b++) {
            int strength = oracle.bar[b][4];
            oracle.bar[b][4] = strength + 1;
            Ratio[] limits = new Ratio[2];
            oracle.factors(c, limits);
            if (limits[0].compareTo(best) > 0) {
                best = limits[0];
                weakest = b;
            }
            int spare = 0;
            for (int n = 1; n < strength; n++) {
                oracle.bar[b][4] = strength - n;
                if (oracle.factors(c, limits) != 0 || limits[0].compareTo(factor) != 0) {
                    break;
                }
                spare = n;
            }
            oracle.bar[b][4] = strength;
            due(name + " spare(" + c + ", " + b + ")", frame.spare(c, b), spare);
        }
        due(name + " weakest(" + c + ")", frame.weakest(c), weakest);
    }

    private static void compareBears(String name, FrameCollapse frame, Oracle oracle, RandomFrames random) {
        for (int k = 0; k < 4; k++) {
            int one = random.between(-9, 9);
            int other = random.between(-9, 9);
            int q = random.between(1, 9);
            due(name + " bears(" + one + ", " + other + ", " + q + ")", frame.bears(one, other, q),
                oracle.bears(one, other, q) ? 1 : 0);
        }
    }
}
