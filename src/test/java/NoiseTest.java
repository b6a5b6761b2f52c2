import java.util.Random;

/** Calls without sense: none throws but pixel, and none answers what no promise has. */
final class NoiseTest {
    private static final Due due = new Due("NoiseTest");
    private static final int[] ODD = {
        Integer.MIN_VALUE, Integer.MIN_VALUE + 1, -256, -17, -2, -1, 0, 1, 2, 3, 4, 5, 7, 8, 9, 10,
        11, 15, 16, 17, 255, 256, 7999, 8000, 8001, 65536, Integer.MAX_VALUE - 1,
        Integer.MAX_VALUE};

    public static void main(String[] args) {
        Random random = new Random(77);
        for (int turn = 0; turn < 2000; turn++) {
            FrameReel reel = new FrameReel();
            for (int call = 0; call < 110; call++) {
                due.is("a call without sense", call(reel, random) ? 1 : 0, 1);
            }
        }
        due.end();
    }

    private static int any(Random random) {
        return random.nextInt(4) == 0 ? ODD[random.nextInt(ODD.length)] : random.nextInt(5) - 1;
    }

    private static boolean isRefusal(int answer) {
        return answer >= FrameReel.ROOM && answer <= FrameReel.UNKNOWN;
    }

    private static boolean call(FrameReel reel, Random r) {
        int a = any(r);
        int b = any(r);
        int c = any(r);
        int d = any(r);
        int answer;
        switch (r.nextInt(13)) {
            case 0:
                answer = reel.type(a, b);
                return isRefusal(answer) || answer >= 1 && answer <= 8000;
            case 1:
                answer = reel.words(a, b, c, d);
                return isRefusal(answer) || answer >= 16 && answer <= 8000;
            case 2:
                typeHalfRight(reel, r);
                answer = reel.read();
                return answer >= -6 && answer <= 8 && (answer < 0) == (reel.place() >= 0);
            case 3:
                answer = reel.begin(a + 1, b + 1, c);
                return isRefusal(answer) || answer == 1;
            case 4:
                answer = reel.frame(a, b, c, d, any(r), any(r));
                return isRefusal(answer) || answer >= 1 && answer <= 8;
            case 5:
                answer = reel.paint(a, b, c, d);
                return isRefusal(answer) || answer == 1;
            case 6:
                answer = reel.first(r.nextBoolean());
                return isRefusal(answer) || answer == 0 || answer == 1;
            case 7:
                reel.about(a + 2 * b, c);
                return true;
            case 8:
                answer = reel.show(a);
                return isRefusal(answer) || answer == 1;
            case 9:
                try {
                    reel.pixel(a, b);
                } catch (IndexOutOfBoundsException e) {
                    // An array's own exception would be no throw of the class.
                    return e.getClass() == IndexOutOfBoundsException.class
                        && e.getMessage() == null;
                }
                return true;
            case 10:
                answer = reel.write();
                return isRefusal(answer) || answer > 100 && answer <= 9968;
            case 11:
                answer = reel.out(a);
                return answer >= FrameReel.NONE && answer <= 255;
            default:
                return reel.place() >= FrameReel.NONE && reel.place() <= 8000;
        }
    }

    /** A file with right sums whose numbers and packed bytes are right or not. */
    private static void typeHalfRight(FrameReel reel, Random r) {
        int width = 1 + r.nextInt(3);
        int height = 1 + r.nextInt(3);
        Made file = Made.started(width, height, 1 + r.nextInt(2));
        if (r.nextBoolean()) {
            file.control(width, height, 0, 0, r.nextInt(3), r.nextInt(2));
        }
        file.data(packed(width * 4 * height + height, r));
        for (int k = r.nextInt(3); k > 0; k--) {
            file.control(any(r), any(r), any(r), any(r), r.nextInt(4), r.nextInt(3));
            file.frameData(packed(5, r));
        }
        Made.typeIn(reel, file.end().bytes());
    }

    private static byte[] packed(int n, Random r) {
        byte[] rows = new byte[n];
        for (int k = 0; k < n; k++) {
            rows[k] = (byte) r.nextInt(r.nextInt(20) == 0 ? 6 : 5);
        }
        byte[] packed = Made.packed(rows);
        if (r.nextInt(3) == 0) {
            packed[r.nextInt(packed.length)] ^= (byte) (1 << r.nextInt(8));
        }
        return packed;
    }
}
