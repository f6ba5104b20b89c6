/** The methods of the face by number, so that a test can send the same call to the program and to the model. */
final class Calls {
    static final String[] NAMES = {"node", "hold", "bar", "lift", "strengthen", "load", "ofNode", "ofBar", "count",
        "mechanism", "twist", "bound", "limits", "factor", "near", "bears", "moment", "yields", "binding", "spare",
        "weakest", "image", "restore"};
    static final int[] ARGUMENTS = {3, 2, 3, 1, 2, 4, 2, 2, 1, 1, 3, 3, 1, 3, 2, 3, 4, 2, 3, 2, 1, 1, 1};

    private Calls() {
    }

    static int named(String name) {
        return java.util.Arrays.asList(NAMES).indexOf(name);
    }

    /** Those that return GONE plus the code instead of the code. */
    static boolean answersLong(int method) {
        String name = NAMES[method];
        return name.equals("twist") || name.equals("bound") || name.equals("factor") || name.equals("moment");
    }

    static String text(int method, int[] a) {
        String arguments = java.util.Arrays.toString(a);
        return NAMES[method] + "(" + arguments.substring(1, arguments.length() - 1) + ")";
    }

    static long send(FrameCollapse x, int method, int... a) {
        switch (NAMES[method]) {
            case "node": return x.node(a[0], a[1], a[2]);
            case "hold": return x.hold(a[0], a[1]);
            case "bar": return x.bar(a[0], a[1], a[2]);
            case "lift": return x.lift(a[0]);
            case "strengthen": return x.strengthen(a[0], a[1]);
            case "load": return x.load(a[0], a[1], a[2], a[3]);
            case "ofNode": return x.ofNode(a[0], a[1]);
            case "ofBar": return x.ofBar(a[0], a[1]);
            case "count": return x.count(a[0]);
            case "mechanism": return x.mechanism(a[0]);
            case "twist": return x.twist(a[0], a[1], a[2]);
            case "bound": return x.bound(a[0], a[1], a[2]);
            case "limits": return x.limits(a[0]);
            case "factor": return x.factor(a[0], a[1], a[2]);
            case "near": return x.near(a[0], a[1]);
            case "bears": return x.bears(a[0], a[1], a[2]);
            case "moment": return x.moment(a[0], a[1], a[2], a[3]);
            case "yields": return x.yields(a[0], a[1]);
            case "binding": return x.binding(a[0], a[1], a[2]);
            case "spare": return x.spare(a[0], a[1]);
            case "weakest": return x.weakest(a[0]);
            case "image": return x.image(a[0]);
            default: return x.restore(a[0]);
        }
    }

    static long send(Model x, int method, int... a) {
        switch (NAMES[method]) {
            case "node": return x.node(a[0], a[1], a[2]);
            case "hold": return x.hold(a[0], a[1]);
            case "bar": return x.bar(a[0], a[1], a[2]);
            case "lift": return x.lift(a[0]);
            case "strengthen": return x.strengthen(a[0], a[1]);
            case "load": return x.load(a[0], a[1], a[2], a[3]);
            case "ofNode": return x.ofNode(a[0], a[1]);
            case "ofBar": return x.ofBar(a[0], a[1]);
            case "count": return x.count(a[0]);
            case "mechanism": return x.mechanism(a[0]);
            case "twist": return x.twist(a[0], a[1], a[2]);
            case "bound": return x.bound(a[0], a[1], a[2]);
            case "limits": return x.limits(a[0]);
            case "factor": return x.factor(a[0], a[1], a[2]);
            case "near": return x.near(a[0], a[1]);
            case "bears": return x.bears(a[0], a[1], a[2]);
            case "moment": return x.moment(a[0], a[1], a[2], a[3]);
            case "yields": return x.yields(a[0], a[1]);
            case "binding": return x.binding(a[0], a[1], a[2]);
            case "spare": return x.spare(a[0], a[1]);
            case "weakest": return x.weakest(a[0]);
            case "image": return x.image(a[0]);
            default: return x.restore(a[0]);
        }
    }
}
