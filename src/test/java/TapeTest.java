/** Promises 1, 2, 3: a new object, type, words. */
final class TapeTest {
    private static final Due due = new Due("TapeTest");

    public static void main(String[] args) {
        newObject();
        typeOrder();
        typeRefuses();
        wordsOrder();
        room();
        due.end();
    }

    private static void newObject() {
        FrameReel reel = new FrameReel();
        due.is("place of a new object", reel.place(), FrameReel.NONE);
        due.is("about of a new object", reel.about(0, 0), FrameReel.UNKNOWN);
        due.is("about of no what", reel.about(11, 0), FrameReel.UNKNOWN);
        due.is("show(-1) of a new object", reel.show(-1), FrameReel.UNKNOWN);
        due.is("paint of a new object", reel.paint(-1, 0, 0, 1), FrameReel.UNKNOWN);
        due.is("frame of a new object", reel.frame(1, 1, 0, 0, 0, 0), FrameReel.STATE);
        due.is("frame of nothing, a new object", reel.frame(0, 0, 0, 0, 9, 9), FrameReel.STATE);
        due.is("first(true) of a new object", reel.first(true), FrameReel.STATE);
        due.is("first(false) of a new object", reel.first(false), FrameReel.STATE);
        due.is("write of a new object", reel.write(), FrameReel.STATE);
        due.is("out of a new object", reel.out(0), FrameReel.NONE);
        due.noPixel("a new object", reel, 0, 0);
        due.is("the tape of a new object", reel.type(1, 1), 1);
    }

    private static void typeOrder() {
        FrameReel reel = new FrameReel();
        due.is("type 1", reel.type(0xABCDEF00 | 137, 1), 1);
        due.is("type 2", reel.type(0xABCD504E, 2), 3);
        due.is("type 3", reel.type(0xAB470D0A, 3), 6);
        due.is("type 2 more", reel.type(0x1A0A, 2), 8);
        due.is("the signature typed in parts", reel.read(), -2);
        due.is("its place", reel.place(), 8);
        due.is("type 4", reel.type(0x89504E47, 4), 4);
        due.is("type 4 more", reel.type(0x0D0A1A0B, 4), 8);
        due.is("a wrong last byte", reel.read(), -1);
        due.is("its place", reel.place(), 7);
    }

    private static void typeRefuses() {
        FrameReel reel = new FrameReel();
        for (int n : new int[] {0, 5, -1, Integer.MAX_VALUE, Integer.MIN_VALUE}) {
            due.is("type of n " + n, reel.type(1, n), FrameReel.OUTSIDE);
        }
        due.is("nothing was typed", reel.type(1, 1), 1);
    }

    private static void wordsOrder() {
        FrameReel reel = new FrameReel();
        byte[] file = Made.started(2, 1, 1).control(2, 1, 0, 0, 0, 0)
            .data(Made.picture(2, 1, 0x01020304, 0xF1F2F3F4)).end().bytes();
        due.is("words", reel.words(number(file, 0), number(file, 4), number(file, 8),
            number(file, 12)), 16);
        for (int k = 16; k < file.length; k++) {
            due.is("type behind words", reel.type(file[k], 1), k + 1);
        }
        due.is("the file by words and type", reel.read(), 1);
        reel.show(0);
        due.pixel("the file by words and type", reel, 1, 0, 0xF1F2F3F4);
    }

    private static int number(byte[] file, int i) {
        return java.nio.ByteBuffer.wrap(file).getInt(i);
    }

    private static void room() {
        FrameReel reel = new FrameReel();
        for (int k = 1; k <= 499; k++) {
            due.is("words", reel.words(k, k, k, k), 16 * k);
        }
        due.is("type up to 7985", reel.type(0, 1), 7985);
        due.is("words beyond 8000", reel.words(0, 0, 0, 0), FrameReel.ROOM);
        due.is("type up to 7989", reel.type(0, 4), 7989);
        due.is("type up to 7993", reel.type(0, 4), 7993);
        due.is("type up to 7997", reel.type(0, 4), 7997);
        due.is("type beyond 8000", reel.type(0, 4), FrameReel.ROOM);
        due.is("OUTSIDE comes before ROOM", reel.type(0, 5), FrameReel.OUTSIDE);
        due.is("type up to 8000", reel.type(0, 3), 8000);
        due.is("one byte beyond 8000", reel.type(0, 1), FrameReel.ROOM);
        due.is("a full tape is read", reel.read(), -1);
        due.is("and is empty then", reel.type(0, 1), 1);

        reel = new FrameReel();
        for (int k = 1; k <= 500; k++) {
            due.is("words up to 8000", reel.words(k, k, k, k), 16 * k);
        }
        due.is("words behind 8000", reel.words(0, 0, 0, 0), FrameReel.ROOM);
    }
}
