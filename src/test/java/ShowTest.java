import java.util.Random;

/** Promises 11 and 12: show and pixel. */
final class ShowTest {
    private static final Due due = new Due("ShowTest");

    public static void main(String[] args) {
        blendByHand();
        disposeByHand();
        againstAModel();
        unknown();
        outside();
        asItIsNow();
        defaultPicture();
        due.end();
    }

    private static int blended(int under, int over) {
        return shownOver(under, over, 1);
    }

    private static int shownOver(int under, int over, int blend) {
        FrameReel reel = new FrameReel();
        reel.begin(1, 1, 0);
        reel.frame(1, 1, 0, 0, 0, 0);
        reel.paint(0, 0, 0, under);
        reel.frame(1, 1, 0, 0, 0, blend);
        reel.paint(1, 0, 0, over);
        reel.show(1);
        return reel.pixel(0, 0);
    }

    private static void blendByHand() {
        due.is("alpha 0", blended(0x11223344, 0xFFFFFF00), 0x11223344);
        due.is("alpha 255", blended(0x11223344, 0x010203FF), 0x010203FF);
        due.is("over nothing", blended(0, 0x11223344), 0x11223344);
        due.is("over colours without alpha", blended(0xFFFFFF00, 0x11223301), 0x11223301);
        // v = 128 * 255 + 127 * 255 = 65025: 200 * 128 * 255 + 100 * 255 * 127 = 9766500.
        due.is("half over all", blended(0x640000FF, 0xC8000080), 0x960000FF);
        // v = 1 * 255 + 254 * 1 = 509, alpha 1; red 255 * 255 / 509 = 127.7, cut.
        due.is("all is cut", blended(0x00000001, 0xFF000001), 0x7F000001);
        due.is("the greatest", blended(0xFFFFFFFF, 0xFFFFFFFE), 0xFFFFFFFF);
        due.is("blend 0 is as it is", shownOver(0x11223344, 0x55667700, 0), 0x55667700);
    }

    private static void disposeByHand() {
        for (int dispose = 0; dispose <= 2; dispose++) {
            FrameReel reel = new FrameReel();
            reel.begin(3, 1, 0);
            reel.frame(3, 1, 0, 0, 0, 0);
            for (int x = 0; x < 3; x++) {
                reel.paint(0, x, 0, 0x0A0A0AFF);
            }
            reel.frame(2, 1, 1, 0, dispose, 0);
            reel.paint(1, 0, 0, 0x0B0B0BFF);
            reel.paint(1, 1, 0, 0x0C0C0CFF);
            reel.frame(1, 1, 2, 0, 0, 1);
            reel.show(1);
            due.pixel("before it is disposed of", reel, 1, 0, 0x0B0B0BFF);
            reel.show(2);
            int[] second = {0x0B0B0BFF, 0, 0x0A0A0AFF};
            int[] third = {0x0C0C0CFF, 0, 0x0A0A0AFF};
            due.pixel("dispose " + dispose, reel, 0, 0, 0x0A0A0AFF);
            due.pixel("dispose " + dispose, reel, 1, 0, second[dispose]);
            due.pixel("dispose " + dispose, reel, 2, 0, third[dispose]);
        }
        FrameReel reel = new FrameReel();
        reel.begin(1, 1, 0);
        reel.frame(1, 1, 0, 0, 2, 0);
        reel.paint(0, 0, 0, -1);
        reel.frame(1, 1, 0, 0, 0, 1);
        reel.show(1);
        due.pixel("dispose 2 of the first", reel, 0, 0, 0);
    }

    /** The same by the document's words, each colour a number of its own. */
    private static int[][][][] model(int[][] regions, int[][] pixels, int width, int height) {
        int[][][][] shown = new int[regions.length][][][];
        int[][][] canvas = new int[height][width][4];
        for (int f = 0; f < regions.length; f++) {
            int[] r = regions[f];
            int[][][] before = copy(canvas);
            for (int k = 0; k < r[0] * r[1]; k++) {
                int[] there = canvas[r[3] + k / r[0]][r[2] + k % r[0]];
                blend(there, pixels[f][k], r[5]);
            }
            shown[f] = copy(canvas);
            for (int k = 0; k < r[0] * r[1] && r[4] != 0; k++) {
                int y = r[3] + k / r[0];
                int x = r[2] + k % r[0];
                canvas[y][x] = r[4] == 1 || f == 0 ? new int[4] : before[y][x];
            }
        }
        return shown;
    }

    private static void blend(int[] there, int c, int blend) {
        long s = c & 255;
        long u = there[3];
        long v = s * 255 + (255 - s) * u;
        for (int k = 0; k < 3 && (blend == 0 || s != 0); k++) {
            long colour = c >>> (24 - 8 * k) & 255;
            there[k] = (int) (blend == 0 || s == 255 ? colour
                : (colour * s * 255 + there[k] * u * (255 - s)) / v);
        }
        if (blend == 0 || s != 0) {
            there[3] = (int) (blend == 0 || s == 255 ? s : v / 255);
        }
    }

    private static int[][][] copy(int[][][] canvas) {
        int[][][] other = new int[canvas.length][canvas[0].length][];
        for (int y = 0; y < canvas.length; y++) {
            for (int x = 0; x < canvas[0].length; x++) {
                other[y][x] = canvas[y][x].clone();
            }
        }
        return other;
    }

    private static void againstAModel() {
        Random random = new Random(17);
        int[] alphas = {0, 1, 127, 128, 254, 255};
        for (int turn = 0; turn < 400; turn++) {
            int width = 1 + random.nextInt(5);
            int height = 1 + random.nextInt(4);
            int count = 1 + random.nextInt(8);
            FrameReel reel = new FrameReel();
            reel.begin(width, height, 0);
            int[][] regions = new int[count][];
            int[][] pixels = new int[count][];
            for (int f = 0; f < count; f++) {
                int w = 1 + random.nextInt(width);
                int h = 1 + random.nextInt(height);
                int[] r = {w, h, random.nextInt(width - w + 1), random.nextInt(height - h + 1),
                    random.nextInt(3), random.nextInt(4) == 0 ? 0 : 1};
                regions[f] = r;
                pixels[f] = new int[w * h];
                reel.frame(w, h, r[2], r[3], r[4], r[5]);
                for (int k = 0; k < w * h; k++) {
                    int alpha = random.nextBoolean() ? alphas[random.nextInt(6)]
                        : random.nextInt(256);
                    pixels[f][k] = random.nextInt() & 0xFFFFFF00 | alpha;
                    reel.paint(f, k % w, k / w, pixels[f][k]);
                }
            }
            int[][][][] shown = model(regions, pixels, width, height);
            for (int times = 0; times < 2; times++) {
                int f = random.nextInt(count);
                due.is("show", reel.show(f), 1);
                for (int k = 0; k < width * height; k++) {
                    int[] p = shown[f][k / width][k % width];
                    due.pixel("turn " + turn, reel, k % width, k / width,
                        p[0] << 24 | p[1] << 16 | p[2] << 8 | p[3]);
                }
            }
        }
    }

    private static FrameReel small() {
        FrameReel reel = new FrameReel();
        reel.begin(2, 3, 0);
        reel.frame(2, 3, 0, 0, 0, 0);
        reel.frame(1, 1, 1, 2, 0, 0);
        reel.paint(1, 0, 0, 7);
        return reel;
    }

    private static void unknown() {
        FrameReel reel = small();
        reel.show(1);
        for (int i : new int[] {2, 8, -2, Integer.MIN_VALUE, Integer.MAX_VALUE}) {
            due.is("show " + i, reel.show(i), FrameReel.UNKNOWN);
        }
        due.pixel("what was shown stays", reel, 1, 2, 7);
        reel.begin(1, 1, 0);
        due.is("no frame", reel.show(0), FrameReel.UNKNOWN);
        due.is("the default picture", reel.show(-1), 1);
    }

    private static void outside() {
        FrameReel reel = small();
        for (int i = -1; i <= 1; i++) {
            reel.show(i);
            int[][] wrong = {{2, 0}, {0, 3}, {-1, 0}, {0, -1}, {-1, 1}, {2, -1},
                {Integer.MAX_VALUE, 0}, {0, Integer.MAX_VALUE}, {Integer.MIN_VALUE, 0},
                {0, Integer.MIN_VALUE}};
            for (int[] p : wrong) {
                due.noPixel("outside", reel, p[0], p[1]);
            }
            due.pixel("the corner", reel, 1, 2, i == 1 ? 7 : 0);
        }
    }

    private static void asItIsNow() {
        FrameReel reel = small();
        due.noPixel("not shown yet", reel, 0, 0);
        reel.show(0);
        reel.paint(1, 0, 0, 9);
        due.noPixel("painted since", reel, 0, 0);
        reel.show(0);
        reel.paint(-1, 0, 0, 9);
        due.noPixel("its own painted since", reel, 0, 0);
        reel.show(0);
        reel.frame(1, 1, 0, 0, 0, 0);
        due.noPixel("a frame more since", reel, 0, 0);
        reel.show(0);
        reel.first(true);
        due.noPixel("another default picture since", reel, 0, 0);
        reel.show(0);
        reel.first(true);
        due.pixel("nothing is another one", reel, 0, 0, 0);
        reel.first(false);
        due.noPixel("another default picture again", reel, 0, 0);
        reel.show(0);
        reel.write();
        reel.type(1, 1);
        reel.read();
        reel.about(0, 0);
        due.pixel("writing and a fault change nothing", reel, 0, 0, 0);
        reel.begin(2, 3, 0);
        due.noPixel("begun since", reel, 0, 0);
        reel.show(-1);
        Made.typeIn(reel, Made.started(1, 1, 1).data(Made.picture(1, 1, 4))
            .control(1, 1, 0, 0, 0, 0).frameData(Made.picture(1, 1, 5)).end().bytes());
        due.pixel("typing changes nothing", reel, 1, 2, 0);
        reel.read();
        due.noPixel("read since", reel, 0, 0);
    }

    private static void defaultPicture() {
        FrameReel reel = new FrameReel();
        reel.begin(2, 1, 0);
        reel.frame(2, 1, 0, 0, 1, 1);
        reel.paint(0, 0, 0, 0xAABBCC00);
        reel.paint(-1, 1, 0, 0x01020300);
        reel.show(-1);
        due.pixel("its own, not blended", reel, 1, 0, 0x01020300);
        reel.first(true);
        reel.show(-1);
        due.pixel("the first frame's, not blended", reel, 0, 0, 0xAABBCC00);
        due.pixel("the first frame's, not blended", reel, 1, 0, 0);
        reel.show(0);
        due.pixel("the frame is blended", reel, 0, 0, 0);
    }
}
