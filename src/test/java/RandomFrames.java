/** Frames and numbers that look random and are the same in every run. */
final class RandomFrames {
    private long state;

    RandomFrames(long seed) {
        state = seed * 2862933555777941757L + 3037000493L;
        next(2);
    }

    int next(int bound) {
        state = state * 6364136223846793005L + 1442695040888963407L;
        return (int) ((state >>> 33) % bound);
    }

    int between(int least, int greatest) {
        return least + next(greatest - least + 1);
    }

    /** Nodes on a small grid, mostly free, with as many bars as chance lets in, and loads. */
    FrameCollapse frame() {
        FrameCollapse frame = new FrameCollapse();
        int width = between(0, 4);
        int height = between(width == 0 ? 1 : 0, 4);
        int nodes = between(2, 7);
        int held = between(1, 3);
        for (int k = 0; k < 40 && frame.count(0) < nodes; k++) {
            int kind = frame.count(0) < held ? between(1, 3) : next(8) == 0 ? between(1, 3) : 0;
            frame.node(next(width + 1), next(height + 1), kind);
        }
        int bars = next(4) == 0 ? between(1, 6) : 6;
        for (int k = 0; k < 120 && frame.count(1) < bars; k++) {
            frame.bar(next(frame.count(0)), next(frame.count(0)), between(1, 12));
        }
        loads(frame);
        return frame;
    }

    void loads(FrameCollapse frame) {
        int steady = next(3);
        for (int c = 0; c < 3; c++) {
            int share = between(1, 4);
            for (int n = 0; n < frame.count(0); n++) {
                if (next(4) < share && (c > 0 || steady > 0)) {
                    int most = c == 0 ? steady : 5;
                    frame.load(c, n, between(-most, most), between(-most, most));
                }
            }
        }
    }
}
