import java.util.Random;

/** Promise 4: pictures, their filters, fault 6. */
final class RowsTest {
    private static final Due due = new Due("RowsTest");

    public static void main(String[] args) {
        byHand();
        allFilters();
        wrongFilters();
        wrongSizes();
        due.end();
    }

    private static FrameReel dotted(String what, int width, int height, byte[] rows, int want) {
        FrameReel reel = new FrameReel();
        Made.typeIn(reel, Made.started(width, height, 1).control(width, height, 0, 0, 0, 0)
            .data(Made.packed(rows)).end().bytes());
        due.is(what, reel.read(), want);
        reel.show(0);
        return reel;
    }

    private static void byHand() {
        for (int filter = 0; filter <= 4; filter++) {
            FrameReel reel = dotted("filter " + filter, 2, 2, Made.small(
                0, 10, 20, 30, 255, 200, 100, 50, 255,
                filter, 1, 2, 3, 4, 5, 6, 7, 200), 1);
            int[] left = {0x01020304, 0x01020304, 0x0B162103, 0x060C1283, 0x0B162103};
            int[] right = {0x050607C8, 0x06080ACC, 0xCD6A39C7, 0x6C3E2989, 0xCD6A39CB};
            due.pixel("filter " + filter, reel, 0, 1, left[filter]);
            due.pixel("filter " + filter, reel, 1, 1, right[filter]);
        }
        // On the first row all above is 0; ties of filter 4 go to a, then to b.
        int[] first = {0x05060708, 0x06080A0C, 0x05060708, 0x0507080A, 0x06080A0C};
        for (int filter = 0; filter <= 4; filter++) {
            FrameReel reel = dotted("first row", 2, 1,
                Made.small(filter, 1, 2, 3, 4, 5, 6, 7, 8), 1);
            due.pixel("first row, filter " + filter, reel, 1, 0, first[filter]);
        }
    }

    private static int predicted(int filter, int a, int b, int c) {
        if (filter == 3) {
            return (a + b) >> 1;
        }
        if (filter < 3) {
            return filter == 0 ? 0 : filter == 1 ? a : b;
        }
        int best = a;
        for (int other : new int[] {b, c}) {
            if (Math.abs(a + b - c - other) < Math.abs(a + b - c - best)) {
                best = other;
            }
        }
        return best;
    }

    private static void allFilters() {
        Random random = new Random(3);
        for (int turn = 0; turn < 200; turn++) {
            int width = 1 + random.nextInt(16);
            int height = 1 + random.nextInt(16);
            int step = 4 * width;
            int spread = turn % 2 == 0 ? 256 : 4;
            int[] bytes = new int[height * step];
            byte[] rows = new byte[height * (step + 1)];
            for (int y = 0; y < height; y++) {
                int filter = random.nextInt(5);
                rows[y * (step + 1)] = (byte) filter;
                for (int k = 0; k < step; k++) {
                    int i = y * step + k;
                    bytes[i] = random.nextInt(spread);
                    int a = k < 4 ? 0 : bytes[i - 4];
                    int b = y == 0 ? 0 : bytes[i - step];
                    int c = k < 4 || y == 0 ? 0 : bytes[i - step - 4];
                    rows[i + y + 1] = (byte) (bytes[i] - predicted(filter, a, b, c));
                }
            }
            FrameReel reel = dotted("filters, turn " + turn, width, height, rows, 1);
            for (int k = 0; k < width * height; k++) {
                int want = bytes[4 * k] << 24 | bytes[4 * k + 1] << 16 | bytes[4 * k + 2] << 8
                    | bytes[4 * k + 3];
                due.pixel("filters, turn " + turn, reel, k % width, k / width, want);
            }
        }
    }

    private static void wrongFilters() {
        for (int filter = 5; filter < 256; filter++) {
            dotted("filter " + filter, 1, 1, Made.small(filter, 0, 0, 0, 0), -6);
            dotted("filter " + filter + " at last", 1, 2,
                Made.small(0, 0, 0, 0, 0, filter, 0, 0, 0, 0), -6);
        }
    }

    private static void wrongSizes() {
        for (int n = 0; n < 30; n++) {
            dotted(n + " bytes of rows", 2, 2, new byte[n], n == 18 ? 1 : -6);
        }
        // A frame's rows are those of its region, not of the canvas.
        for (int n : new int[] {5, 10, 18}) {
            FrameReel reel = new FrameReel();
            Made file = Made.started(2, 2, 1).data(Made.picture(2, 2, 0, 0, 0, 0))
                .control(1, 2, 1, 0, 0, 0).frameData(Made.packed(new byte[n]));
            due.read("a region's rows", reel, file.bytes(), -2, file.size());
            int place = file.next();
            due.read("a region's rows", reel, file.end().bytes(), n == 10 ? 1 : -6,
                n == 10 ? -1 : place);
        }
    }
}
