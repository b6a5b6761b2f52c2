import java.util.Arrays;
import java.util.Random;

/** Terms: the edges of pictures, their filters, and what is shown, sentence by sentence. */
final class PictureEdgeTest {
    private static final Due due = new Due("PictureEdgeTest");
    private static final int[] BYTES = {0, 1, 2, 100, 127, 128, 254, 255};

    public static void main(String[] args) {
        filterBytes();
        moreOrLess();
        filterNone();
        filterLeft();
        filterAbove();
        filterHalf();
        filterNearest();
        outside();
        zeroAtFirst();
        blendNone();
        blendEnds();
        blendBetween();
        disposeStays();
        disposeZero();
        disposeBefore();
        greatestCanvas();
        due.end();
    }

    private static FrameReel read(String what, int width, int height, byte[] rows, int want) {
        FrameReel reel = new FrameReel();
        Made file = Made.started(width, height, 1).control(width, height, 0, 0, 0, 0)
            .data(Made.packed(rows)).mark().end();
        due.read(what, reel, file.bytes(), want, want < 0 ? file.marked() : FrameReel.NONE);
        reel.show(0);
        return reel;
    }

    /** Two pixels whose bytes are all the same: the first, the other's with its filter. */
    private static void left(String what, int filter, int a, int there, int want) {
        FrameReel reel = read(what, 2, 1, Made.small(filter, a, a, a, a, there, there, there,
            there), 1);
        due.pixel(what, reel, 1, 0, want * 0x01010101);
    }

    /** Two rows of one pixel: the upper one, the other with its filter. */
    private static void above(String what, int filter, int b, int there, int want) {
        FrameReel reel = read(what, 1, 2, Made.small(0, b, b, b, b, filter, there, there, there,
            there), 1);
        due.pixel(what, reel, 0, 1, want * 0x01010101);
    }

    private static void filterBytes() {
        due.sentence("PICTURES: for each row of the region a FILTER byte (0 .. 4)");
        for (int filter = 0; filter < 256; filter++) {
            int want = filter <= 4 ? 1 : -6;
            read("filter " + filter, 1, 1, Made.small(filter, 1, 2, 3, 4), want);
            read("filter " + filter + " of the last row", 1, 3, Made.small(4, 1, 2, 3, 4, 0, 1, 2,
                3, 4, filter, 1, 2, 3, 4), want);
        }
    }

    private static void moreOrLess() {
        due.sentence("and four bytes for each pixel; nothing more or less.");
        int[][] sizes = {{1, 1}, {16, 1}, {1, 16}, {16, 16}, {3, 5}};
        for (int[] size : sizes) {
            int right = size[1] * (1 + 4 * size[0]);
            for (int n : new int[] {0, 1, right - 4, right - 1, right, right + 1, right + 4}) {
                read(n + " bytes for " + Arrays.toString(size), size[0], size[1], new byte[n],
                    n == right ? 1 : -6);
            }
        }
        // The rows of a region are not those of the canvas.
        for (int n : new int[] {4, 5, 6, 10, 18}) {
            Made file = Made.started(2, 2, 1).data(Made.picture(2, 2, 0, 0, 0, 0))
                .control(1, 1, 1, 1, 0, 0).frameData(Made.packed(new byte[n])).mark().end();
            if (n == 5) {
                due.fine("a region's 5", file, 1);
            } else {
                due.fault("a region's " + n, file, 6);
            }
        }
    }

    private static void filterNone() {
        due.sentence("A byte is what stands there and, modulo 256: 0 nothing");
        for (int there : BYTES) {
            left("0", 0, 77, there, there);
            above("0", 0, 77, there, there);
        }
    }

    private static void filterLeft() {
        due.sentence("1 the byte at the pixel to the left (a)");
        for (int a : BYTES) {
            for (int there : BYTES) {
                left(a + " and " + there, 1, a, there, (a + there) % 256);
                above("nothing to the left", 1, a, there, there);
            }
        }
        // To the left is the pixel, not the byte.
        FrameReel reel = read("four bytes each", 2, 1, Made.small(1, 1, 2, 3, 4, 10, 20, 30, 40),
            1);
        due.pixel("four bytes each", reel, 1, 0, 0x0B16212C);
    }

    private static void filterAbove() {
        due.sentence("2 the one above (b)");
        for (int b : BYTES) {
            for (int there : BYTES) {
                above(b + " and " + there, 2, b, there, (b + there) % 256);
                left("nothing above", 2, b, there, there);
            }
        }
    }

    /** What a third pixel is to a (left), b (above), c, where 0 stands with the filter. */
    private static int guessed(int filter, int a, int b, int c) {
        FrameReel reel = new FrameReel();
        byte[] rows = Made.small(0, c, c, c, c, b, b, b, b,
            filter, 0, 0, 0, 0, 0, 0, 0, 0);
        // What stands at the left one so that it becomes a: above it is c, else 0.
        int half = filter == 3 ? c / 2 : filter == 1 || filter == 0 ? 0 : c;
        Arrays.fill(rows, 10, 14, (byte) (a - half));
        Made.typeIn(reel, Made.started(2, 2, 1).control(2, 2, 0, 0, 0, 0).data(Made.packed(rows))
            .end().bytes());
        reel.read();
        reel.show(0);
        due.pixel("the one to the left", reel, 0, 1, a * 0x01010101);
        return reel.pixel(1, 1);
    }

    private static void filterHalf() {
        due.sentence("3 half (cut) of a and b");
        for (int a : BYTES) {
            for (int b : BYTES) {
                due.is("half of " + a + " and " + b, guessed(3, a, b, 9),
                    (a + b) / 2 * 0x01010101);
            }
        }
        for (int other : BYTES) {
            left("nothing above", 3, 0, other, other);
            above("half alone", 3, other, 7, (7 + other / 2) % 256);
            above("and modulo 256", 3, other, 255, (255 + other / 2) % 256);
        }
    }

    private static void filterNearest() {
        due.sentence("4 of a, b and c (above to the left) the one nearest to a and b less c, a"
            + " before b before c");
        for (int a : BYTES) {
            for (int b : BYTES) {
                for (int c : BYTES) {
                    int p = a + b - c;
                    int want = c;
                    if (Math.abs(p - b) <= Math.abs(p - c)) {
                        want = b;
                    }
                    if (Math.abs(p - a) <= Math.abs(p - want)) {
                        want = a;
                    }
                    due.is(a + ", " + b + ", " + c, guessed(4, a, b, c), want * 0x01010101);
                }
            }
        }
        // By hand: 20 is c itself; then 15, as far from 20 as from 10.
        due.is("c", guessed(4, 10, 30, 20), 20 * 0x01010101);
        due.is("a before c", guessed(4, 20, 5, 10), 20 * 0x01010101);
        due.is("b before c", guessed(4, 5, 20, 10), 20 * 0x01010101);
        due.is("beyond 255", guessed(4, 250, 240, 0), 250 * 0x01010101);
        due.is("below 0", guessed(4, 10, 20, 255), 10 * 0x01010101);
    }

    private static void outside() {
        due.sentence("0 for what lies outside.");
        for (int filter = 0; filter <= 4; filter++) {
            // A region within the canvas: what lies around it there is no neighbour.
            FrameReel reel = new FrameReel();
            int[] full = new int[9];
            Arrays.fill(full, 0x50505050);
            due.read("filter " + filter, reel, Made.started(3, 3, 2).control(3, 3, 0, 0, 0, 0)
                .data(Made.picture(3, 3, full)).control(2, 2, 1, 1, 0, 0)
                .frameData(Made.packed(Made.small(filter, 1, 2, 3, 4, 0, 0, 0, 0,
                    filter, 0, 0, 0, 0, 0, 0, 0, 0))).end().bytes(), 2, FrameReel.NONE);
            reel.show(1);
            int dot = 0x01020304;
            int[] right = {0, dot, 0, 0x00010102, dot};
            int[] below = {0, 0, dot, 0x00010102, dot};
            due.pixel("filter " + filter + ", first", reel, 1, 1, dot);
            due.pixel("filter " + filter + ", right", reel, 2, 1, right[filter]);
            due.pixel("filter " + filter + ", below", reel, 1, 2, below[filter]);
        }
        // The end of the row above is not to the left of a row's first pixel.
        FrameReel reel = read("a row's first pixel", 2, 2, Made.small(0, 9, 9, 9, 9, 8, 8, 8, 8,
            1, 1, 1, 1, 1, 0, 0, 0, 0), 1);
        due.pixel("a row's first pixel", reel, 0, 1, 0x01010101);
    }

    private static FrameReel begun(int width, int height) {
        FrameReel reel = new FrameReel();
        reel.begin(width, height, 0);
        return reel;
    }

    /** A frame of one colour. */
    private static void frame(FrameReel reel, int[] region, int dispose, int blend, int colour) {
        int k = reel.frame(region[0], region[1], region[2], region[3], dispose, blend) - 1;
        for (int i = 0; i < region[0] * region[1]; i++) {
            reel.paint(k, i % region[0], i / region[0], colour);
        }
    }

    private static boolean isIn(int[] region, int x, int y) {
        return x >= region[2] && x < region[2] + region[0] && y >= region[3]
            && y < region[3] + region[1];
    }

    private static void zeroAtFirst() {
        due.sentence("SHOWN: the canvas is 0 at first.");
        int[] region = {2, 1, 1, 2};
        FrameReel reel = begun(4, 4);
        frame(reel, region, 0, 1, 0x01020380);
        frame(reel, new int[] {4, 4, 0, 0}, 0, 0, -1);
        // Shown again behind a full canvas and behind the default picture, it is the same.
        reel.paint(-1, 0, 0, -1);
        for (int before : new int[] {1, -1, 0}) {
            reel.show(before);
            reel.show(0);
            for (int k = 0; k < 16; k++) {
                due.pixel("around its region", reel, k % 4, k / 4,
                    isIn(region, k % 4, k / 4) ? 0x01020380 : 0);
            }
        }
    }

    private static int over(int under, int over, int blend) {
        FrameReel reel = begun(1, 1);
        frame(reel, new int[] {1, 1, 0, 0}, 0, 0, under);
        frame(reel, new int[] {1, 1, 0, 0}, 0, blend, over);
        reel.show(1);
        return reel.pixel(0, 0);
    }

    private static void blendNone() {
        due.sentence("its pixels come into its region: with BLEND 0 as they are");
        for (int colour : new int[] {0, -1, 0x01020300, 0xFFFFFF00, 0x01020301, 0x010203FF}) {
            due.is("as they are", over(0x10203040, colour, 0), colour);
            due.is("as they are, over all", over(-1, colour, 0), colour);
        }
    }

    private static void blendEnds() {
        due.sentence("with 1 each by its alpha s: nothing for 0, as it is for 255");
        for (int under : new int[] {0, -1, 0x10203000, 0x10203001, 0x10203040, 0x102030FF}) {
            due.is("alpha 0", over(under, 0xFFFEFD00, 1), under);
            due.is("alpha 0, all 0", over(under, 0, 1), under);
            due.is("alpha 255", over(under, 0x010203FF, 1), 0x010203FF);
        }
        due.is("alpha 1 over none", over(0x10203000, 0xFFFEFD01, 1), 0xFFFEFD01);
        due.is("alpha 254 over none", over(0x10203000, 0xFFFEFDFE, 1), 0xFFFEFDFE);
    }

    /** As the document tells it, with numbers that have no bound. */
    private static int mixed(int over, int under) {
        long s = over & 255;
        long u = under & 255;
        long v = s * 255 + (255 - s) * u;
        long all = v / 255;
        for (int shift = 8; shift <= 24; shift += 8) {
            long colour = over >>> shift & 255;
            long there = under >>> shift & 255;
            all |= (colour * s * 255 + there * u * (255 - s)) / v << shift;
        }
        return (int) all;
    }

    private static void blendBetween() {
        due.sentence("otherwise with the alpha u of what is there: v is s times 255 and (255 less"
            + " s) times u; .. (all cut)");
        Random random = new Random(12);
        for (int s = 1; s < 255; s++) {
            int[] under = new int[256];
            int[] over = new int[256];
            for (int u = 0; u < 256; u++) {
                int kind = random.nextInt(4);
                under[u] = (kind == 0 ? 0xFFFFFF00 : random.nextInt() & 0xFFFFFF00) | u;
                over[u] = (kind <= 1 ? 0xFFFFFF00 : random.nextInt() & 0xFFFFFF00) | s;
            }
            FrameReel reel = new FrameReel();
            Made.typeIn(reel, Made.started(16, 16, 2).control(16, 16, 0, 0, 0, 0)
                .data(Made.picture(16, 16, under)).control(16, 16, 0, 0, 0, 1)
                .frameData(Made.picture(16, 16, over)).end().bytes());
            due.is("two frames", reel.read(), 2);
            reel.show(1);
            for (int u = 0; u < 256; u++) {
                due.pixel("s " + s + ", u " + u, reel, u % 16, u / 16, mixed(over[u], under[u]));
            }
        }
        // v is 1 * 255 + 254 * 255 = 65025: red 255 * 254 * 255 / 65025, cut from 254.
        due.is("by hand", over(0xFF0000FF, 0x00FF0001, 1), 0xFE0100FF);
        // v is 255 + 254 = 509: 255 * 255 / 509 is 127.7, 509 / 255 is 1.99.
        due.is("cut", over(0x00000001, 0xFF000001, 1), 0x7F000001);
    }

    private static final int[] ALL = {4, 3, 0, 0};
    private static final int[][] REGIONS = {
        {4, 3, 0, 0}, {1, 1, 0, 0}, {1, 1, 3, 2}, {2, 1, 1, 1}, {4, 1, 0, 2}, {1, 3, 3, 0}};

    /** A full frame, one in the region that is disposed of, and one that changes nothing. */
    private static void disposed(int dispose, int[] region, int inRegion) {
        FrameReel reel = begun(4, 3);
        frame(reel, ALL, 0, 0, 0x0A0A0AFF);
        frame(reel, region, dispose, 0, 0x0B0B0B0B);
        frame(reel, new int[] {1, 1, 0, 0}, 0, 1, 0);
        for (int shown : new int[] {2, 1, 2}) {
            reel.show(shown);
            for (int k = 0; k < 12; k++) {
                int there = shown == 1 ? 0x0B0B0B0B : inRegion;
                due.pixel("region " + Arrays.toString(region) + ", shown " + shown, reel, k % 4,
                    k / 4, isIn(region, k % 4, k / 4) ? there : 0x0A0A0AFF);
            }
        }
    }

    private static void disposeStays() {
        due.sentence("That is the CANVAS of the frame. Behind it, by DISPOSE: 0 it stays");
        for (int[] region : REGIONS) {
            disposed(0, region, 0x0B0B0B0B);
        }
    }

    private static void disposeZero() {
        due.sentence("1 its region is 0");
        for (int[] region : REGIONS) {
            disposed(1, region, 0);
        }
    }

    private static void disposeBefore() {
        due.sentence("2 its region is as it was before the frame");
        for (int[] region : REGIONS) {
            disposed(2, region, 0x0A0A0AFF);
        }
        FrameReel reel = begun(1, 1);
        int[] dot = {1, 1, 0, 0};
        frame(reel, dot, 1, 0, 1);
        frame(reel, dot, 2, 0, 2);
        frame(reel, dot, 0, 0, 3);
        frame(reel, dot, 2, 0, 4);
        frame(reel, dot, 2, 0, 5);
        frame(reel, dot, 1, 1, 0);
        frame(reel, dot, 0, 1, 0);
        int[] want = {1, 2, 3, 4, 5, 3, 0};
        for (int k = 0; k < 7; k++) {
            reel.show(k);
            due.pixel("one behind the other, " + k, reel, 0, 0, want[k]);
        }
        due.sentence("(for the first one: as with 1)");
        for (int[] region : REGIONS) {
            reel = begun(4, 3);
            frame(reel, region, 2, 0, -1);
            frame(reel, new int[] {1, 1, 0, 0}, 0, 1, 0);
            for (int shown : new int[] {0, 1}) {
                reel.show(shown);
                for (int k = 0; k < 12; k++) {
                    due.pixel("the first one", reel, k % 4, k / 4,
                        shown == 0 && isIn(region, k % 4, k / 4) ? -1 : 0);
                }
            }
        }
    }

    private static void greatestCanvas() {
        due.sentence("a CANVAS of width times height PIXELS (1 to 16 each)");
        int[][] pictures = new int[4][256];
        for (int k = 0; k < 256; k++) {
            for (int i = 0; i < 4; i++) {
                pictures[i][k] = 0x01000100 * k + 0x00010000 * i + 255;
            }
        }
        for (int dispose = 0; dispose <= 2; dispose++) {
            Made file = Made.started(16, 16, 3).data(Made.picture(16, 16, pictures[3]));
            for (int i = 0; i < 3; i++) {
                int side = i < 2 ? 16 : 1;
                file.control(side, side, 0, 0, i == 1 ? dispose : 0, 0)
                    .frameData(Made.picture(side, side, pictures[i]));
            }
            FrameReel reel = new FrameReel();
            due.read("16 x 16", reel, file.end().bytes(), 3, FrameReel.NONE);
            int[] canvas = dispose == 0 ? pictures[1] : dispose == 1 ? new int[256] : pictures[0];
            for (int shown : new int[] {2, -1}) {
                reel.show(shown);
                for (int k = 1; k < 256; k += 3) {
                    due.pixel("16 x 16, shown " + shown, reel, k % 16, k / 16,
                        shown == 2 ? canvas[k] : pictures[3][k]);
                }
            }
        }
    }
}
