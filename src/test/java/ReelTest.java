/** Promises 6 to 10: begin, frame, paint, first, about. */
final class ReelTest {
    private static final Due due = new Due("ReelTest");
    private static final int LOW = Integer.MIN_VALUE, HIGH = Integer.MAX_VALUE;

    public static void main(String[] args) {
        begin();
        beginRefuses();
        frame();
        frameRefuses();
        frameRoom();
        paint();
        paintRefuses();
        first();
        about();
        due.end();
    }

    private static FrameReel begun(int width, int height) {
        FrameReel reel = new FrameReel();
        due.is("begin", reel.begin(width, height, 0), 1);
        return reel;
    }

    private static void begin() {
        FrameReel reel = new FrameReel();
        due.is("begin", reel.begin(16, 1, HIGH), 1);
        due.is("width", reel.about(0, 0), 16);
        due.is("height", reel.about(1, 0), 1);
        due.is("frames", reel.about(2, 0), 0);
        due.is("plays", reel.about(3, 0), HIGH);
        due.is("default", reel.about(4, 0), 0);
        reel.paint(-1, 3, 0, 5);
        reel.frame(16, 1, 0, 0, 1, 1);
        reel.paint(0, 3, 0, 6);
        reel.first(true);
        due.is("begin again", reel.begin(4, 16, 0), 1);
        due.is("width", reel.about(0, 0), 4);
        due.is("height", reel.about(1, 0), 16);
        due.is("no frames again", reel.about(2, 0), 0);
        due.is("plays again", reel.about(3, 0), 0);
        due.is("default of its own again", reel.about(4, 0), 0);
        due.is("show", reel.show(-1), 1);
        for (int k = 0; k < 64; k++) {
            due.pixel("all 0", reel, k % 4, k / 4, 0);
        }
        reel.paint(-1, 0, 0, 9);
        reel.begin(4, 4, 0);
        reel.show(-1);
        due.pixel("0 again", reel, 0, 0, 0);
    }

    private static void beginRefuses() {
        FrameReel reel = begun(2, 3);
        reel.frame(1, 1, 0, 0, 0, 0);
        reel.show(0);
        for (int wrong : new int[] {0, 17, -1, LOW, HIGH}) {
            due.is("width " + wrong, reel.begin(wrong, 1, 0), FrameReel.OUTSIDE);
            due.is("height " + wrong, reel.begin(1, wrong, 0), FrameReel.OUTSIDE);
        }
        due.is("plays -1", reel.begin(1, 1, -1), FrameReel.OUTSIDE);
        due.is("plays least", reel.begin(1, 1, LOW), FrameReel.OUTSIDE);
        due.is("the reel stays", reel.about(1, 0), 3);
        due.is("its frame stays", reel.about(2, 0), 1);
        due.pixel("what was shown stays", reel, 1, 2, 0);
        due.is("no reel by a refused begin", new FrameReel().begin(0, 0, 0), FrameReel.OUTSIDE);
    }

    private static void frame() {
        FrameReel reel = begun(5, 4);
        due.is("a frame", reel.frame(5, 4, 0, 0, 0, 0), 1);
        due.is("another", reel.frame(2, 3, 3, 1, 2, 1), 2);
        due.is("a third", reel.frame(1, 1, 4, 3, 1, 0), 3);
        int[] second = {2, 3, 3, 1, 2, 1};
        for (int k = 0; k < 6; k++) {
            due.is("about the second", reel.about(5 + k, 1), second[k]);
        }
        reel.paint(0, 4, 3, 77);
        reel.begin(5, 4, 0);
        reel.frame(5, 4, 0, 0, 0, 0);
        reel.show(0);
        due.pixel("a new frame is 0", reel, 4, 3, 0);
    }

    private static void frameRefuses() {
        FrameReel reel = begun(3, 2);
        int[][] wrong = {
            {0, 1, 0, 0, 0, 0}, {1, 0, 0, 0, 0, 0}, {4, 1, 0, 0, 0, 0}, {1, 3, 0, 0, 0, 0},
            {1, 1, 3, 0, 0, 0}, {1, 1, 0, 2, 0, 0}, {2, 1, 2, 0, 0, 0}, {1, 2, 0, 1, 0, 0},
            {-1, 1, 0, 0, 0, 0}, {1, -1, 0, 0, 0, 0}, {1, 1, -1, 0, 0, 0}, {1, 1, 0, -1, 0, 0},
            {HIGH, 1, HIGH, 0, 0, 0}, {1, HIGH, 0, HIGH, 0, 0}, {LOW, 1, LOW, 0, 0, 0},
            {1, 1, HIGH, 0, 0, 0}, {1, 1, 0, LOW, 0, 0}, {3, 1, LOW, 0, 0, 0},
            {1, 1, 0, 0, 3, 0}, {1, 1, 0, 0, -1, 0}, {1, 1, 0, 0, 0, 2}, {1, 1, 0, 0, 0, -1}};
        for (int[] f : wrong) {
            due.is("frame " + java.util.Arrays.toString(f),
                reel.frame(f[0], f[1], f[2], f[3], f[4], f[5]), FrameReel.OUTSIDE);
        }
        due.is("no frame came", reel.about(2, 0), 0);
        due.is("the last corner", reel.frame(1, 1, 2, 1, 2, 1), 1);
    }

    private static void frameRoom() {
        FrameReel reel = begun(1, 1);
        for (int k = 1; k <= 8; k++) {
            due.is("frame " + k, reel.frame(1, 1, 0, 0, 0, 0), k);
        }
        reel.show(7);
        due.is("a ninth frame", reel.frame(1, 1, 0, 0, 0, 0), FrameReel.ROOM);
        due.is("OUTSIDE before ROOM", reel.frame(2, 1, 0, 0, 0, 0), FrameReel.OUTSIDE);
        due.is("eight stay", reel.about(2, 0), 8);
        due.pixel("what was shown stays", reel, 0, 0, 0);
    }

    private static void paint() {
        FrameReel reel = begun(3, 3);
        reel.frame(2, 2, 1, 1, 0, 0);
        due.is("paint", reel.paint(0, 1, 0, 0x11223344), 1);
        due.is("paint its own", reel.paint(-1, 2, 2, 0x55667788), 1);
        reel.show(0);
        for (int k = 0; k < 9; k++) {
            due.pixel("by its region", reel, k % 3, k / 3, k == 5 ? 0x11223344 : 0);
        }
        reel.show(-1);
        for (int k = 0; k < 9; k++) {
            due.pixel("by the canvas", reel, k % 3, k / 3, k == 8 ? 0x55667788 : 0);
        }
        due.is("paint over", reel.paint(-1, 2, 2, -1), 1);
        reel.show(-1);
        due.pixel("painted over", reel, 2, 2, -1);
    }

    private static void paintRefuses() {
        FrameReel reel = begun(3, 3);
        reel.frame(2, 1, 1, 1, 0, 0);
        for (int wrong : new int[] {1, 7, 8, -2, LOW, HIGH}) {
            due.is("frame " + wrong, reel.paint(wrong, 0, 0, 1), FrameReel.UNKNOWN);
            due.is("UNKNOWN first", reel.paint(wrong, 99, 0, 1), FrameReel.UNKNOWN);
        }
        int[][] wrong = {{2, 0}, {0, 1}, {-1, 0}, {0, -1}, {HIGH, 0}, {0, LOW}, {-1, 1}};
        for (int[] p : wrong) {
            due.is("pixel outside", reel.paint(0, p[0], p[1], 1), FrameReel.OUTSIDE);
        }
        due.is("its own, outside", reel.paint(-1, 3, 0, 1), FrameReel.OUTSIDE);
        due.is("its own, outside", reel.paint(-1, 0, 3, 1), FrameReel.OUTSIDE);
        reel.show(0);
        for (int k = 0; k < 9; k++) {
            due.pixel("nothing was painted", reel, k % 3, k / 3, 0);
        }
        due.is("a refused paint", reel.paint(0, 2, 0, 1), FrameReel.OUTSIDE);
        due.pixel("what was shown stays", reel, 0, 0, 0);
    }

    private static void first() {
        FrameReel reel = begun(2, 2);
        due.is("it was so", reel.first(false), 0);
        due.is("without a frame", reel.first(true), FrameReel.STATE);
        reel.frame(2, 1, 0, 0, 0, 0);
        reel.frame(2, 2, 0, 0, 0, 0);
        due.is("the first is not the canvas", reel.first(true), FrameReel.STATE);
        due.is("it stays", reel.about(4, 0), 0);
        reel.begin(2, 2, 0);
        reel.frame(2, 2, 0, 0, 0, 0);
        reel.begin(2, 2, 0);
        due.is("the reel before had a frame", reel.first(true), FrameReel.STATE);
        reel.frame(2, 2, 0, 0, 0, 0);
        reel.paint(-1, 0, 0, 5);
        reel.paint(0, 0, 0, 6);
        due.is("the first frame's", reel.first(true), 1);
        due.is("about it", reel.about(4, 0), 1);
        reel.show(-1);
        due.is("it was so too", reel.first(true), 0);
        due.pixel("the first frame's", reel, 0, 0, 6);
        due.is("it is not painted", reel.paint(-1, 0, 0, 7), FrameReel.UNKNOWN);
        reel.paint(0, 0, 0, 8);
        reel.show(-1);
        due.pixel("with the first frame", reel, 0, 0, 8);
        due.is("its own again", reel.first(false), 1);
        due.is("about it", reel.about(4, 0), 0);
        reel.show(-1);
        due.pixel("all 0", reel, 0, 0, 0);
        reel.show(0);
        due.pixel("the frame stays", reel, 0, 0, 8);
        due.is("its own again already", reel.first(false), 0);
    }

    private static void about() {
        FrameReel reel = begun(6, 7);
        reel.frame(1, 2, 3, 4, 1, 1);
        for (int what = 0; what <= 4; what++) {
            for (int i : new int[] {-1, 5, LOW, HIGH}) {
                due.is("about the reel, any i", reel.about(what, i), reel.about(what, 0));
            }
        }
        for (int what = 5; what <= 10; what++) {
            for (int i : new int[] {-1, 1, 8, LOW, HIGH}) {
                due.is("no such frame", reel.about(what, i), FrameReel.UNKNOWN);
            }
        }
        for (int what : new int[] {-1, 11, LOW, HIGH}) {
            due.is("no such what", reel.about(what, 0), FrameReel.OUTSIDE);
            due.is("no such what or frame", reel.about(what, 9), FrameReel.OUTSIDE);
        }
        int[] frame = {1, 2, 3, 4, 1, 1};
        for (int k = 0; k < 6; k++) {
            due.is("about a frame", reel.about(5 + k, 0), frame[k]);
        }
    }
}
