import java.util.Random;

/** Promises 13 and 14: write and out. */
final class WriteTest {
    private static final Due due = new Due("WriteTest");

    public static void main(String[] args) {
        firstIsDefault();
        defaultOfItsOwn();
        negativePlays();
        longRows();
        twice();
        refuses();
        latest();
        greatest();
        readAgain();
        due.end();
    }

    /** Packed as the document says: one plain block. */
    private static byte[] packed(int width, int height, int... pixels) {
        byte[] rows = Made.rows(width, height, pixels);
        return Made.joined(Made.small(120, 1, 1, rows.length, rows.length >> 8, ~rows.length,
            ~rows.length >> 8), rows, Made.numbers(Made.adler(rows)));
    }

    private static byte[] control(int serial, int w, int h, int x, int y, int dispose, int blend) {
        return Made.joined(Made.numbers(serial, w, h, x, y, 0x0001000A),
            Made.small(dispose, blend));
    }

    private static void wrote(String what, FrameReel reel, Made want) {
        byte[] bytes = want.bytes();
        due.is(what + ": how many", reel.write(), bytes.length);
        for (int k = 0; k < bytes.length; k++) {
            due.is(what + ": out(" + k + ")", reel.out(k), bytes[k] & 255);
        }
        for (int k : new int[] {-1, bytes.length, Integer.MAX_VALUE, Integer.MIN_VALUE}) {
            due.is(what + ": out(" + k + ")", reel.out(k), FrameReel.NONE);
        }
    }

    private static void firstIsDefault() {
        FrameReel reel = new FrameReel();
        reel.begin(2, 3, 9);
        reel.frame(2, 3, 0, 0, 2, 1);
        reel.paint(0, 0, 0, 0xFFFEFDFC);
        reel.paint(0, 1, 2, 0x80000001);
        reel.first(true);
        reel.frame(1, 2, 1, 1, 1, 0);
        reel.paint(1, 0, 1, 0x01020304);
        wrote("the first frame's", reel, new Made().head(2, 3).counts(2, 9)
            .chunk("fcTL", control(0, 2, 3, 0, 0, 2, 1))
            .chunk("IDAT", packed(2, 3, 0xFFFEFDFC, 0, 0, 0, 0, 0x80000001))
            .chunk("fcTL", control(1, 1, 2, 1, 1, 1, 0))
            .chunk("fdAT", Made.joined(Made.numbers(2), packed(1, 2, 0, 0x01020304)))
            .end());
    }

    private static void defaultOfItsOwn() {
        FrameReel reel = new FrameReel();
        reel.begin(2, 1, Integer.MAX_VALUE);
        reel.paint(-1, 1, 0, 0x0A0B0C0D);
        reel.frame(2, 1, 0, 0, 0, 0);
        reel.paint(0, 0, 0, 5);
        reel.frame(1, 1, 1, 0, 1, 1);
        wrote("its own", reel, new Made().head(2, 1).counts(2, Integer.MAX_VALUE)
            .chunk("IDAT", packed(2, 1, 0, 0x0A0B0C0D))
            .chunk("fcTL", control(0, 2, 1, 0, 0, 0, 0))
            .chunk("fdAT", Made.joined(Made.numbers(1), packed(2, 1, 5, 0)))
            .chunk("fcTL", control(2, 1, 1, 1, 0, 1, 1))
            .chunk("fdAT", Made.joined(Made.numbers(3), packed(1, 1, 0)))
            .end());
    }

    private static void negativePlays() {
        FrameReel reel = new FrameReel();
        Made.typeIn(reel, new Made().head(1, 1).counts(1, -5).control(1, 1, 0, 0, 1, 0)
            .data(Made.picture(1, 1, 3)).end().bytes());
        reel.read();
        wrote("what was read", reel, new Made().head(1, 1).counts(1, -5)
            .chunk("fcTL", control(0, 1, 1, 0, 0, 1, 0)).chunk("IDAT", packed(1, 1, 3)).end());
    }

    private static void longRows() {
        FrameReel reel = new FrameReel();
        reel.begin(8, 8, 1);
        reel.frame(8, 8, 0, 0, 0, 0);
        int[] pixels = new int[64];
        for (int k = 0; k < 64; k++) {
            pixels[k] = -k * 0x01234567;
            reel.paint(0, k % 8, k / 8, pixels[k]);
        }
        reel.first(true);
        wrote("more than 255 bytes of rows", reel, new Made().head(8, 8).counts(1, 1)
            .chunk("fcTL", control(0, 8, 8, 0, 0, 0, 0)).chunk("IDAT", packed(8, 8, pixels))
            .end());
    }

    private static void twice() {
        FrameReel reel = new FrameReel();
        reel.begin(1, 1, 0);
        reel.frame(1, 1, 0, 0, 0, 0);
        reel.write();
        wrote("written twice", reel, new Made().head(1, 1).counts(1, 0)
            .chunk("IDAT", packed(1, 1, 0)).chunk("fcTL", control(0, 1, 1, 0, 0, 0, 0))
            .chunk("fdAT", Made.joined(Made.numbers(1), packed(1, 1, 0))).end());
    }

    private static void refuses() {
        FrameReel reel = new FrameReel();
        due.is("no reel", reel.write(), FrameReel.STATE);
        reel.begin(1, 1, 0);
        due.is("no frame", reel.write(), FrameReel.STATE);
        due.is("nothing was written", reel.out(0), FrameReel.NONE);
    }

    private static void latest() {
        FrameReel reel = new FrameReel();
        reel.begin(1, 1, 0);
        reel.frame(1, 1, 0, 0, 0, 0);
        reel.frame(1, 1, 0, 0, 0, 0);
        int n = reel.write();
        reel.begin(2, 2, 0);
        due.is("a refused write", reel.write(), FrameReel.STATE);
        due.is("what was written stays", reel.out(n - 1), 0x82);
        due.is("its width stays", reel.out(19), 1);
        reel.frame(1, 1, 0, 0, 0, 0);
        int less = reel.write();
        due.is("its width now", reel.out(19), 2);
        due.is("the last byte now", reel.out(less - 1), 0x82);
        due.is("nothing behind", reel.out(less), FrameReel.NONE);
    }

    private static void greatest() {
        FrameReel reel = new FrameReel();
        reel.begin(16, 16, 0);
        for (int k = 0; k < 8; k++) {
            reel.frame(16, 16, 0, 0, 0, 0);
        }
        due.is("the greatest file", reel.write(), 9968);
        due.is("its last byte", reel.out(9967), 0x82);
        due.is("behind it", reel.out(9968), FrameReel.NONE);
        reel.first(true);
        due.is("without its own", reel.write(), 9968 - 1067);
    }

    private static void readAgain() {
        Random random = new Random(23);
        for (int turn = 0; turn < 100; turn++) {
            FrameReel reel = new FrameReel();
            int width = 1 + random.nextInt(3);
            int height = 1 + random.nextInt(3);
            reel.begin(width, height, random.nextInt(5));
            int count = 1 + random.nextInt(3);
            for (int f = 0; f < count; f++) {
                int w = f == 0 ? width : 1 + random.nextInt(width);
                int h = f == 0 ? height : 1 + random.nextInt(height);
                reel.frame(w, h, random.nextInt(width - w + 1), random.nextInt(height - h + 1),
                    random.nextInt(3), random.nextInt(2));
                for (int k = 0; k < w * h; k++) {
                    reel.paint(f, k % w, k / w, random.nextInt());
                }
            }
            reel.paint(-1, 0, 0, random.nextInt());
            if (random.nextBoolean()) {
                reel.first(true);
            }
            byte[] file = new byte[reel.write()];
            for (int k = 0; k < file.length; k++) {
                file[k] = (byte) reel.out(k);
            }
            FrameReel other = new FrameReel();
            due.read("read again", other, file, count, FrameReel.NONE);
            same(reel, other, width, height, count);
        }
    }

    private static void same(FrameReel reel, FrameReel other, int width, int height, int count) {
        for (int what = 0; what <= 10; what++) {
            due.is("about again", other.about(what, count - 1), reel.about(what, count - 1));
        }
        for (int f = -1; f < count; f++) {
            reel.show(f);
            other.show(f);
            for (int k = 0; k < width * height; k++) {
                due.pixel("shown again", other, k % width, k / width,
                    reel.pixel(k % width, k / width));
            }
        }
    }
}
