import java.util.Arrays;

/** Promises 1 to 14: the edges of each call and what it refuses, sentence by sentence. */
final class CallEdgeTest {
    private static final Due due = new Due("CallEdgeTest");
    private static final int LOW = Integer.MIN_VALUE, HIGH = Integer.MAX_VALUE;
    private static final int[] NO_FRAME = {2, 3, 7, 8, -2, LOW, HIGH};

    public static void main(String[] args) {
        newObject();
        typeBytes();
        typeOutside();
        typeRoom();
        wordsBytes();
        wordsRoom();
        readEmpties();
        readFrames();
        readFault();
        placeNone();
        placeLatest();
        beginNew();
        beginOutside();
        frameMore();
        frameState();
        frameOutside();
        frameRoom();
        paintPixel();
        paintUnknown();
        paintOutside();
        firstOnly();
        firstWasSo();
        firstState();
        aboutReel();
        aboutUnknown();
        aboutOutside();
        showDefault();
        showUnknown();
        pixelNone();
        pixelAsItIsNow();
        pixelStays();
        writeBytes();
        writeOrder();
        writePacked();
        writeState();
        outByte();
        manyCalls();
        due.end();
    }

    /** 3 x 2, a frame of all of it and one of 2 x 1 at 1, 1; each pixel with a colour. */
    private static FrameReel made() {
        FrameReel reel = new FrameReel();
        reel.begin(3, 2, 5);
        reel.frame(3, 2, 0, 0, 0, 0);
        reel.frame(2, 1, 1, 1, 2, 1);
        for (int k = 0; k < 6; k++) {
            reel.paint(-1, k % 3, k / 3, 0xD0D0D000 + k);
            reel.paint(0, k % 3, k / 3, 0xA0A0A000 + k);
        }
        reel.paint(1, 0, 0, 0xB0B0B0FF);
        reel.paint(1, 1, 0, 0xB1B1B1FF);
        return reel;
    }

    /** The reel is the one that made() makes, but for whether it has a picture of its own. */
    private static void isMade(String what, FrameReel reel, boolean firstIsDefault) {
        int[] facts = {3, 2, 2, 5, firstIsDefault ? 1 : 0};
        int[][] frames = {{3, 2, 0, 0, 0, 0}, {2, 1, 1, 1, 2, 1}};
        for (int k = 0; k < 11; k++) {
            for (int i = 0; i < 2; i++) {
                due.is(what + ": about " + k + ", " + i, reel.about(k, i),
                    k < 5 ? facts[k] : frames[i][k - 5]);
            }
        }
        for (int k = 0; k < 6; k++) {
            reel.show(-1);
            due.pixel(what + ": default", reel, k % 3, k / 3,
                (firstIsDefault ? 0xA0A0A000 : 0xD0D0D000) + k);
            reel.show(0);
            due.pixel(what + ": first", reel, k % 3, k / 3, 0xA0A0A000 + k);
            reel.show(1);
            due.pixel(what + ": second", reel, k % 3, k / 3,
                k < 4 ? 0xA0A0A000 + k : k == 4 ? 0xB0B0B0FF : 0xB1B1B1FF);
        }
    }

    private static void newObject() {
        due.sentence("FrameReel(): No reel, an empty tape.");
        FrameReel reel = new FrameReel();
        for (int what = 0; what <= 10; what++) {
            due.is("no reel", reel.about(what, 0), FrameReel.UNKNOWN);
        }
        due.is("no frame", reel.show(0), FrameReel.UNKNOWN);
        due.is("no default picture", reel.show(-1), FrameReel.UNKNOWN);
        due.is("nothing to write", reel.write(), FrameReel.STATE);
        due.noPixel("nothing shown", reel, 0, 0);
        due.is("nothing written", reel.out(0), FrameReel.NONE);
        due.is("an empty tape", reel.type(0, 1), 1);
        reel = new FrameReel();
        due.is("an empty tape is no file", reel.read(), -1);
        due.is("its place", reel.place(), 0);
        due.sentence("There is none at first.");
        made().write();
        due.is("objects are apart", new FrameReel().about(0, 0), FrameReel.UNKNOWN);
    }

    /** What stands on a tape, as the place of fault 1 tells: how many first bytes are right. */
    private static int rightBytes(FrameReel reel) {
        int answer = reel.read();
        return answer == -1 ? reel.place() : 8;
    }

    private static void typeBytes() {
        due.sentence("type: n bytes of w (the highest of its lowest n first) come behind the tape:"
            + " how many it has.");
        for (int n = 1; n <= 4; n++) {
            for (int high : new int[] {0, -1}) {
                FrameReel reel = new FrameReel();
                int mask = n == 4 ? -1 : (1 << 8 * n) - 1;
                due.is("n " + n, reel.type(0x89504E47 >>> 8 * (4 - n) & mask | high & ~mask, n),
                    n);
                due.is("as they stand", rightBytes(reel), n);
            }
        }
        FrameReel reel = new FrameReel();
        due.is("behind the tape", reel.type(137, 1), 1);
        due.is("behind the tape", reel.type(0x504E47, 3), 4);
        due.is("behind the tape", reel.type(0x0D0A, 2), 6);
        due.is("behind the tape", reel.type(0xFFFF1A0A, 2), 8);
        due.is("as they stand", rightBytes(reel), 8);
    }

    private static void typeOutside() {
        due.sentence("type: OUTSIDE (n is not 1 .. 4)");
        FrameReel reel = new FrameReel();
        reel.type(137, 1);
        for (int n : new int[] {0, 5, 6, 8, -1, -4, LOW, LOW + 1, HIGH, 256, 257}) {
            due.is("n " + n, reel.type(0x50505050, n), FrameReel.OUTSIDE);
        }
        due.is("the tape stays", reel.type(0x50, 1), 2);
        due.is("as it was", rightBytes(reel), 2);
    }

    /** A tape that has so many bytes. */
    private static FrameReel filled(int n) {
        FrameReel reel = new FrameReel();
        for (int k = 0; k < n / 16; k++) {
            reel.words(-1, -1, -1, -1);
        }
        for (int rest = n % 16; rest > 0; rest -= 4) {
            reel.type(-1, Math.min(rest, 4));
        }
        return reel;
    }

    private static void typeRoom() {
        due.sentence("type: ROOM (more than 8000)");
        for (int before = 7995; before <= 8000; before++) {
            for (int n = 1; n <= 4; n++) {
                FrameReel reel = filled(before);
                boolean fits = before + n <= 8000;
                due.is(n + " behind " + before, reel.type(0, n),
                    fits ? before + n : FrameReel.ROOM);
                int now = fits ? before + n : before;
                due.is("one more", reel.type(0, 1), now < 8000 ? now + 1 : FrameReel.ROOM);
            }
        }
        FrameReel reel = filled(8000);
        due.is("OUTSIDE stands first", reel.type(0, 0), FrameReel.OUTSIDE);
        due.is("OUTSIDE stands first", reel.type(0, 5), FrameReel.OUTSIDE);
        due.is("a full tape is read", reel.read(), -1);
        due.is("then there is room", reel.type(0, 4), 4);
    }

    private static void wordsBytes() {
        due.sentence("words: Sixteen bytes, those of a, b, c, d (each the highest first), come"
            + " behind the tape: how many it has.");
        byte[] file = Made.beforeDot().data(Made.DOT).end().bytes();
        for (int shift = 0; shift < 4; shift++) {
            FrameReel reel = new FrameReel();
            int at = 0;
            while (at < shift) {
                due.is("type", reel.type(file[at], 1), at + 1);
                at++;
            }
            while (at + 16 <= file.length) {
                due.is("words", reel.words(number(file, at), number(file, at + 4),
                    number(file, at + 8), number(file, at + 12)), at + 16);
                at += 16;
            }
            while (at < file.length) {
                due.is("type", reel.type(file[at], 1), at + 1);
                at++;
            }
            due.is("as they stand", reel.read(), 1);
        }
    }

    private static int number(byte[] file, int at) {
        return java.nio.ByteBuffer.wrap(file).getInt(at);
    }

    private static void wordsRoom() {
        due.sentence("words: ROOM.");
        for (int before : new int[] {7983, 7984, 7985, 7999, 8000}) {
            FrameReel reel = filled(before);
            boolean fits = before <= 7984;
            due.is("words behind " + before, reel.words(0, 0, 0, 0),
                fits ? before + 16 : FrameReel.ROOM);
            int now = fits ? before + 16 : before;
            due.is("one more", reel.type(0, 1), now < 8000 ? now + 1 : FrameReel.ROOM);
        }
        // A file that fills the tape is as it was behind refused calls.
        Made file = Made.beforeDot().data(Made.DOT);
        file.chunk("abcd", new byte[8000 - 24 - file.size()]).end();
        FrameReel reel = new FrameReel();
        Made.typeIn(reel, file.bytes());
        due.is("refused", reel.words(1, 2, 3, 4), FrameReel.ROOM);
        due.is("refused", reel.type(1, 1), FrameReel.ROOM);
        due.is("the file is read", reel.read(), 1);
    }

    private static void readEmpties() {
        due.sentence("read: The tape is read as a file, and is empty then");
        FrameReel reel = new FrameReel();
        byte[] right = Made.beforeDot().data(Made.DOT).end().bytes();
        byte[][] files = {right, {}, {1}, Arrays.copyOf(right, 20),
            Arrays.copyOf(right, right.length + 1),
            Made.beforeDot().data(Made.DOT).end().turnLast().bytes(),
            Made.beforeDot().data(new byte[3]).end().bytes(),
            Made.beforeDot().data(Made.packed(new byte[4])).end().bytes()};
        int[] answers = {1, -1, -1, -2, -4, -3, -5, -6};
        for (int k = 0; k < files.length; k++) {
            Made.typeIn(reel, files[k]);
            due.is("file " + k, reel.read(), answers[k]);
            due.is("empty then", reel.type(0, 1), 1);
            due.is("one byte", reel.read(), -1);
            due.is("nothing", reel.read(), -1);
        }
    }

    private static Made manyFrames(int count) {
        Made file = Made.started(1, 1, count).data(Made.DOT);
        for (int k = 0; k < count; k++) {
            file.control(1, 1, 0, 0, 0, 0).frameData(Made.DOT);
        }
        return file.end();
    }

    private static void readFrames() {
        due.sentence("read: how many frames the reel has that it tells");
        FrameReel reel = new FrameReel();
        for (int count : new int[] {8, 1, 7, 2}) {
            due.read(count + " frames", reel, manyFrames(count).bytes(), count, FrameReel.NONE);
            due.is("about them", reel.about(2, 0), count);
            due.is("the last one", reel.show(count - 1), 1);
            due.is("none behind it", reel.show(count), FrameReel.UNKNOWN);
        }
        due.is("more of them", reel.frame(1, 1, 0, 0, 0, 0), 3);
    }

    private static void readFault() {
        due.sentence("read: minus the FAULT (the reel that there is stays)");
        // Each of them has a canvas, plays and frames of its own before its fault.
        int[] dots = new int[16];
        Made[] files = {
            new Made().head(4, 4).counts(1, 9).raw((byte) 1),
            new Made().head(4, 4).counts(1, 9).control(4, 4, 0, 0, 1, 0).turnLast(),
            new Made().head(4, 4).counts(1, 9).control(4, 4, 0, 0, 1, 0)
                .data(Made.picture(4, 4, dots)).end().raw((byte) 1),
            new Made().head(4, 4).counts(1, 9).data(Made.picture(4, 4, dots))
                .control(4, 4, 0, 0, 1, 0).frameData(new byte[2]).end(),
            new Made().head(4, 4).counts(1, 9).data(Made.picture(4, 4, dots))
                .control(4, 4, 0, 0, 1, 0).frameData(Made.picture(4, 3, dots)).end()};
        int[] answers = {-2, -3, -4, -5, -6};
        for (int first = 0; first < 2; first++) {
            FrameReel reel = made();
            reel.first(first == 1);
            for (int k = 0; k < files.length; k++) {
                Made.typeIn(reel, files[k].bytes());
                due.is("fault " + answers[k], reel.read(), answers[k]);
            }
            isMade("stays", reel, first == 1);
            FrameReel wasRead = readAgain(reel);
            for (Made file : files) {
                Made.typeIn(wasRead, file.bytes());
                wasRead.read();
            }
            isMade("stays as it was read", wasRead, first == 1);
        }
        FrameReel none = new FrameReel();
        for (int k = 0; k < files.length; k++) {
            Made.typeIn(none, files[k].bytes());
            due.is("fault " + answers[k], none.read(), answers[k]);
            due.is("no reel stays no reel", none.about(0, 0), FrameReel.UNKNOWN);
            due.is("no reel stays no reel", none.frame(1, 1, 0, 0, 0, 0), FrameReel.STATE);
        }
    }

    /** Another object that has read what this one writes. */
    private static FrameReel readAgain(FrameReel reel) {
        byte[] file = new byte[reel.write()];
        for (int k = 0; k < file.length; k++) {
            file[k] = (byte) reel.out(k);
        }
        FrameReel other = new FrameReel();
        due.read("read again", other, file, reel.about(2, 0), FrameReel.NONE);
        return other;
    }

    private static void placeNone() {
        due.sentence("place: NONE when it had none, or before any.");
        FrameReel reel = new FrameReel();
        due.is("before any", reel.place(), FrameReel.NONE);
        reel.type(1, 1);
        reel.begin(1, 1, 0);
        due.is("before any", reel.place(), FrameReel.NONE);
        Made.typeIn(reel, manyFrames(1).bytes());
        due.is("typed, not read", reel.place(), FrameReel.NONE);
        due.is("a byte too much before it", reel.read(), -1);
        due.is("its place", reel.place(), 0);
        due.read("without a fault", reel, manyFrames(1).bytes(), 1, FrameReel.NONE);
    }

    private static void placeLatest() {
        due.sentence("place: The place of the FAULT of the latest reading");
        FrameReel reel = new FrameReel();
        Made file = Made.beforeDot().data(Made.DOT).end();
        int end = file.size();
        due.read("4", reel, file.raw((byte) 0).bytes(), -4, end);
        reel.begin(1, 1, 0);
        reel.frame(1, 1, 0, 0, 0, 0);
        reel.show(0);
        reel.write();
        reel.type(137, 1);
        due.is("till the next reading", reel.place(), end);
        due.is("asked again", reel.place(), end);
        due.is("the next", reel.read(), -1);
        due.is("its place", reel.place(), 1);
        due.is("the next", reel.read(), -1);
        due.is("its place", reel.place(), 0);
        Made full = new Made().head(1, 1);
        full.chunk("abcd", new byte[8000 - 12 - full.size()]);
        due.read("the greatest place", new FrameReel(), full.bytes(), -2, 8000);
    }

    private static void beginNew() {
        due.sentence("begin: A new reel without frames, its default picture one of its own, all"
            + " pixels 0: 1.");
        for (int first = 0; first < 2; first++) {
            for (int[] size : new int[][] {{1, 1, 0}, {16, 16, HIGH}, {16, 1, 1}, {1, 16, 7}}) {
                FrameReel reel = made();
                reel.first(first == 1);
                due.is("begin", reel.begin(size[0], size[1], size[2]), 1);
                int[] facts = {size[0], size[1], 0, size[2], 0};
                for (int k = 0; k < 5; k++) {
                    due.is("about " + k, reel.about(k, 0), facts[k]);
                }
                due.is("no frames", reel.show(0), FrameReel.UNKNOWN);
                due.is("its own", reel.show(-1), 1);
                for (int k = 0; k < size[0] * size[1]; k++) {
                    due.pixel("0", reel, k % size[0], k / size[0], 0);
                }
                due.is("the last pixel", reel.paint(-1, size[0] - 1, size[1] - 1, 9), 1);
            }
        }
    }

    private static void beginOutside() {
        due.sentence("begin: OUTSIDE (width, height 1 .. 16; plays below 0).");
        FrameReel reel = made();
        for (int wrong : new int[] {0, 17, 18, -1, -16, LOW, HIGH, 256 + 1, 65536 + 1}) {
            due.is("width " + wrong, reel.begin(wrong, 1, 0), FrameReel.OUTSIDE);
            due.is("height " + wrong, reel.begin(1, wrong, 0), FrameReel.OUTSIDE);
        }
        for (int wrong : new int[] {-1, -2, LOW}) {
            due.is("plays " + wrong, reel.begin(1, 1, wrong), FrameReel.OUTSIDE);
        }
        isMade("the reel stays", reel, false);
        FrameReel none = new FrameReel();
        due.is("refused", none.begin(0, 1, 0), FrameReel.OUTSIDE);
        due.is("no reel stays no reel", none.about(0, 0), FrameReel.UNKNOWN);
    }

    private static void frameMore() {
        due.sentence("frame: A frame more, all pixels 0: how many there are.");
        FrameReel reel = new FrameReel();
        for (int turn = 0; turn < 2; turn++) {
            reel.begin(2, 2, 0);
            for (int k = 0; k < 8; k++) {
                due.is("frame " + k, reel.frame(2, 2, 0, 0, 0, 0), k + 1);
                reel.show(k);
                for (int i = 0; i < 4; i++) {
                    due.pixel("0", reel, i % 2, i / 2, 0);
                    reel.paint(k, i % 2, i / 2, -1);
                    reel.show(k);
                }
            }
        }
        reel = made();
        due.is("a third", reel.frame(1, 1, 0, 0, 0, 0), 3);
        reel.begin(3, 2, 5);
        reel.frame(3, 2, 0, 0, 0, 0);
        reel.show(0);
        due.pixel("not the one before", reel, 2, 1, 0);
    }

    private static void frameState() {
        due.sentence("frame: STATE (there is no reel)");
        FrameReel reel = new FrameReel();
        due.is("no reel", reel.frame(1, 1, 0, 0, 0, 0), FrameReel.STATE);
        due.is("no reel, and nothing right", reel.frame(0, -1, 17, 99, 3, 2), FrameReel.STATE);
        reel.begin(1, 1, 0);
        due.is("a reel, no frame came before", reel.frame(1, 1, 0, 0, 0, 0), 1);
    }

    private static void frameOutside() {
        due.sentence("frame: OUTSIDE (the region is not within the canvas, or empty; dispose 0 .."
            + " 2, blend 0 .. 1)");
        int[][] wrong = {
            {0, 1, 0, 0, 0, 0}, {1, 0, 0, 0, 0, 0}, {0, 2, 3, 0, 0, 0}, {3, 0, 0, 2, 0, 0},
            {4, 1, 0, 0, 0, 0}, {1, 3, 0, 0, 0, 0}, {3, 1, 1, 0, 0, 0}, {1, 2, 0, 1, 0, 0},
            {1, 1, 3, 0, 0, 0}, {1, 1, 0, 2, 0, 0}, {-1, 1, 1, 0, 0, 0}, {1, -1, 0, 1, 0, 0},
            {1, 1, -1, 0, 0, 0}, {1, 1, 0, -1, 0, 0}, {3, 1, -1, 0, 0, 0}, {1, 2, 0, -1, 0, 0},
            {HIGH, 1, HIGH, 0, 0, 0}, {1, HIGH, 0, HIGH, 0, 0}, {HIGH, 1, 2, 0, 0, 0},
            {1, HIGH, 0, 2, 0, 0}, {2, 1, HIGH, 0, 0, 0}, {1, 2, 0, HIGH, 0, 0},
            {LOW, 1, LOW, 0, 0, 0}, {1, LOW, 0, LOW, 0, 0}, {LOW, 1, 1, 0, 0, 0},
            {1, 1, LOW, 0, 0, 0}, {1, 1, 0, LOW, 0, 0},
            {1, 1, 0, 0, 3, 0}, {1, 1, 0, 0, -1, 0}, {1, 1, 0, 0, LOW, 0}, {1, 1, 0, 0, HIGH, 0},
            {1, 1, 0, 0, 0, 2}, {1, 1, 0, 0, 0, -1}, {1, 1, 0, 0, 0, LOW}, {1, 1, 0, 0, 0, HIGH}};
        FrameReel reel = made();
        for (int[] f : wrong) {
            due.is(Arrays.toString(f), reel.frame(f[0], f[1], f[2], f[3], f[4], f[5]),
                FrameReel.OUTSIDE);
        }
        isMade("the reel stays", reel, false);
        int[][] right = {{3, 2, 0, 0, 2, 1}, {1, 1, 2, 1, 1, 0}, {3, 1, 0, 1, 0, 1},
            {1, 2, 2, 0, 2, 0}};
        for (int k = 0; k < right.length; k++) {
            int[] f = right[k];
            due.is(Arrays.toString(f), reel.frame(f[0], f[1], f[2], f[3], f[4], f[5]), k + 3);
            for (int i = 0; i < 6; i++) {
                due.is("about it", reel.about(5 + i, k + 2), f[i]);
            }
        }
    }

    private static void frameRoom() {
        due.sentence("frame: ROOM (8).");
        FrameReel reel = made();
        for (int k = 3; k <= 8; k++) {
            due.is("frame " + k, reel.frame(1, 1, 0, 0, 0, 0), k);
        }
        for (int times = 0; times < 3; times++) {
            due.is("a ninth", reel.frame(1, 1, 0, 0, 0, 0), FrameReel.ROOM);
        }
        due.is("OUTSIDE stands first", reel.frame(1, 1, 0, 0, 3, 0), FrameReel.OUTSIDE);
        due.is("eight stay", reel.about(2, 0), 8);
        due.is("the eighth", reel.show(7), 1);
        due.is("no ninth", reel.show(8), FrameReel.UNKNOWN);
        due.is("no ninth", reel.paint(8, 0, 0, 1), FrameReel.UNKNOWN);
        due.read("eight that were read", reel, manyFrames(8).bytes(), 8, FrameReel.NONE);
        due.is("a ninth", reel.frame(1, 1, 0, 0, 0, 0), FrameReel.ROOM);
    }

    private static void paintPixel() {
        due.sentence("paint: A pixel of a frame (0 the first; -1 the default picture of its own)"
            + " is c, its highest byte red, its lowest alpha: 1.");
        for (int c : new int[] {0, 1, -1, LOW, HIGH, 0x01020304}) {
            FrameReel reel = made();
            due.is("the default picture", reel.paint(-1, 2, 1, c), 1);
            due.is("the first", reel.paint(0, 0, 0, c), 1);
            reel.show(-1);
            due.pixel("the default picture", reel, 2, 1, c);
            due.pixel("no other pixel", reel, 0, 0, 0xD0D0D000);
            reel.show(0);
            due.pixel("the first", reel, 0, 0, c);
            due.pixel("no other pixel", reel, 2, 1, 0xA0A0A005);
        }
        FrameReel reel = made();
        reel.paint(0, 0, 0, 0x01020304);
        reel.first(true);
        reel.write();
        int[] bytes = {1, 2, 3, 4};
        int from = 8 + 25 + 20 + 38 + 8 + 7 + 1;
        for (int k = 0; k < 4; k++) {
            due.is("red first", reel.out(from + k), bytes[k]);
        }
        due.is("the last corner of a region", reel.paint(1, 1, 0, 5), 1);
    }

    private static void paintUnknown() {
        due.sentence("paint: UNKNOWN (there is no such frame, no such picture, no reel)");
        FrameReel reel = made();
        for (int frame : NO_FRAME) {
            due.is("frame " + frame, reel.paint(frame, 0, 0, 1), FrameReel.UNKNOWN);
            due.is("it stands first", reel.paint(frame, -1, 99, 1), FrameReel.UNKNOWN);
        }
        isMade("the reel stays", reel, false);
        reel.first(true);
        due.is("no picture of its own", reel.paint(-1, 0, 0, 1), FrameReel.UNKNOWN);
        isMade("the reel stays", reel, true);
        reel = new FrameReel();
        for (int frame = -2; frame < 2; frame++) {
            due.is("no reel", reel.paint(frame, 0, 0, 1), FrameReel.UNKNOWN);
        }
        reel.begin(1, 1, 0);
        due.is("no frame", reel.paint(0, 0, 0, 1), FrameReel.UNKNOWN);
    }

    private static void paintOutside() {
        due.sentence("paint: OUTSIDE (x, y of its region).");
        FrameReel reel = made();
        int[][] sizes = {{3, 2}, {3, 2}, {2, 1}};
        for (int frame = -1; frame < 2; frame++) {
            int width = sizes[frame + 1][0];
            int height = sizes[frame + 1][1];
            int[][] wrong = {{width, 0}, {0, height}, {-1, 0}, {0, -1}, {-1, 1}, {width, height},
                {HIGH, 0}, {0, HIGH}, {LOW, 0}, {0, LOW}, {-width, 1}, {0, LOW / 2}};
            for (int[] p : wrong) {
                due.is("pixel " + Arrays.toString(p), reel.paint(frame, p[0], p[1], 1),
                    FrameReel.OUTSIDE);
            }
        }
        isMade("the reel stays", reel, false);
    }

    private static void firstOnly() {
        due.sentence("first: The default picture is the first frame's from now on (only), or one of"
            + " its own, all pixels 0: 1");
        FrameReel reel = made();
        due.is("the first frame's", reel.first(true), 1);
        isMade("the first frame's", reel, true);
        reel.paint(0, 0, 0, 77);
        reel.show(-1);
        due.pixel("painted with the frame", reel, 0, 0, 77);
        due.is("one of its own", reel.first(false), 1);
        due.is("about it", reel.about(4, 0), 0);
        reel.show(-1);
        for (int k = 0; k < 6; k++) {
            due.pixel("0, not as it was", reel, k % 3, k / 3, 0);
        }
        reel.show(0);
        due.pixel("the frame stays", reel, 0, 0, 77);
        due.is("painted by itself", reel.paint(-1, 0, 0, 5), 1);
        reel.show(0);
        due.pixel("the frame stays", reel, 0, 0, 77);
        due.read("the first frame's, read", reel, Made.beforeDot().data(Made.DOT).end().bytes(),
            1, FrameReel.NONE);
        due.is("one of its own", reel.first(false), 1);
        reel.show(-1);
        due.pixel("0", reel, 0, 0, 0);
    }

    private static void firstWasSo() {
        due.sentence("first: 0 if it was so.");
        FrameReel reel = made();
        due.is("its own", reel.first(false), 0);
        isMade("nothing is another", reel, false);
        reel.first(true);
        due.is("the first frame's", reel.first(true), 0);
        isMade("nothing is another", reel, true);
        due.read("its own, read", reel, manyFrames(1).bytes(), 1, FrameReel.NONE);
        due.is("its own", reel.first(false), 0);
        reel.show(-1);
        due.pixel("its pixels stay", reel, 0, 0, Made.DOT_COLOUR);
        due.is("a new reel", reel.begin(1, 1, 0), 1);
        due.is("its own", reel.first(false), 0);
    }

    private static void firstState() {
        due.sentence("first: STATE (there is no reel; for true: there is no first frame whose"
            + " region is the canvas).");
        FrameReel reel = new FrameReel();
        due.is("no reel", reel.first(true), FrameReel.STATE);
        due.is("no reel", reel.first(false), FrameReel.STATE);
        for (int[] size : new int[][] {{2, 3}, {3, 2}, {1, 1}, {2, 2}}) {
            reel.begin(3, 3, 0);
            due.is("no frame", reel.first(true), FrameReel.STATE);
            reel.frame(size[0], size[1], 3 - size[0], 3 - size[1], 0, 0);
            reel.frame(3, 3, 0, 0, 0, 0);
            due.is("less than the canvas", reel.first(true), FrameReel.STATE);
            due.is("it stays", reel.about(4, 0), 0);
            due.is("for false it is no matter", reel.first(false), 0);
        }
        reel.begin(3, 3, 0);
        reel.frame(3, 3, 0, 0, 0, 0);
        due.is("the canvas", reel.first(true), 1);
        reel.begin(3, 3, 0);
        due.is("no frame of this reel", reel.first(true), FrameReel.STATE);
    }

    private static void aboutReel() {
        due.sentence("about: Of the reel: what = 0 width, 1 height, 2 how many frames, 3 plays, 4"
            + " whether the default picture is the first frame's (0, 1)");
        FrameReel reel = made();
        int[] facts = {3, 2, 2, 5, 0};
        for (int what = 0; what < 5; what++) {
            for (int i : new int[] {0, 1, -1, 2, 8, LOW, HIGH}) {
                due.is("any i", reel.about(what, i), facts[what]);
            }
        }
        reel.first(true);
        due.is("the first frame's", reel.about(4, -1), 1);
    }

    private static void aboutUnknown() {
        due.sentence("about: UNKNOWN (there is no reel; for 5 to 10 no such frame)");
        FrameReel none = new FrameReel();
        FrameReel reel = made();
        for (int what = 0; what <= 10; what++) {
            due.is("no reel", none.about(what, 0), FrameReel.UNKNOWN);
            for (int i : NO_FRAME) {
                due.is("frame " + i, reel.about(what, i) == FrameReel.UNKNOWN ? 1 : 0,
                    what >= 5 ? 1 : 0);
            }
            due.is("frame -1", reel.about(what, -1) == FrameReel.UNKNOWN ? 1 : 0,
                what >= 5 ? 1 : 0);
        }
        due.is("no reel stands first", none.about(11, 0), FrameReel.UNKNOWN);
        reel.begin(1, 1, 0);
        due.is("no frame of the reel before", reel.about(5, 0), FrameReel.UNKNOWN);
    }

    private static void aboutOutside() {
        due.sentence("about: OUTSIDE (what).");
        FrameReel reel = made();
        for (int what : new int[] {-1, 11, 12, 16, -11, LOW, HIGH, 256}) {
            for (int i : new int[] {0, 1, 2, -1, LOW, HIGH}) {
                due.is("what " + what + ", frame " + i, reel.about(what, i), FrameReel.OUTSIDE);
            }
        }
    }

    private static void showDefault() {
        due.sentence("show: What is shown is the canvas of frame i, or (-1) the default picture,"
            + " its pixels as they are, not blended: 1.");
        FrameReel reel = new FrameReel();
        reel.begin(1, 1, 0);
        reel.frame(1, 1, 0, 0, 0, 1);
        reel.paint(0, 0, 0, 0x01020300);
        reel.paint(-1, 0, 0, 0x05060700);
        due.is("frame 0", reel.show(0), 1);
        due.pixel("blended: nothing", reel, 0, 0, 0);
        due.is("its own", reel.show(-1), 1);
        due.pixel("as it is", reel, 0, 0, 0x05060700);
        reel.first(true);
        due.is("the first frame's", reel.show(-1), 1);
        due.pixel("as it is", reel, 0, 0, 0x01020300);
        isMade("shown in any order", made(), false);
    }

    private static void showUnknown() {
        due.sentence("show: UNKNOWN.");
        FrameReel reel = new FrameReel();
        for (int i = -2; i < 2; i++) {
            due.is("no reel", reel.show(i), FrameReel.UNKNOWN);
        }
        reel = made();
        reel.show(0);
        for (int i : NO_FRAME) {
            due.is("frame " + i, reel.show(i), FrameReel.UNKNOWN);
            due.pixel("what was shown stays", reel, 1, 1, 0xA0A0A004);
        }
        reel.begin(1, 1, 0);
        due.is("no frame of the reel before", reel.show(0), FrameReel.UNKNOWN);
        due.noPixel("nothing is shown", reel, 0, 0);
    }

    private static void pixelNone() {
        due.sentence("pixel: IndexOutOfBoundsException when there is none such");
        for (int shown = -1; shown < 2; shown++) {
            FrameReel reel = made();
            reel.show(shown);
            int[][] wrong = {{3, 0}, {0, 2}, {-1, 0}, {0, -1}, {3, 2}, {-1, 1}, {3, -1}, {-3, 1},
                {HIGH, 0}, {0, HIGH}, {LOW, 0}, {0, LOW}, {HIGH, HIGH}, {LOW, LOW}};
            for (int[] p : wrong) {
                due.noPixel("outside", reel, p[0], p[1]);
            }
            due.pixel("a call that throws changes nothing", reel, 0, 0,
                shown == -1 ? 0xD0D0D000 : 0xA0A0A000);
        }
    }

    private static void pixelAsItIsNow() {
        due.sentence("pixel: or nothing was shown of this reel as it is now.");
        due.noPixel("never shown", made(), 0, 0);
        FrameReel reel = made();
        for (int k = 0; k < 8; k++) {
            reel.show(k % 3 - 1);
            switch (k) {
                case 0 -> due.is("paint", reel.paint(0, 0, 0, 1), 1);
                case 1 -> due.is("paint another", reel.paint(1, 0, 0, 1), 1);
                case 2 -> due.is("paint its own", reel.paint(-1, 0, 0, 1), 1);
                case 3 -> due.is("frame", reel.frame(1, 1, 0, 0, 0, 0), 3);
                case 4 -> due.is("first(true)", reel.first(true), 1);
                case 5 -> due.is("first(false)", reel.first(false), 1);
                case 6 -> due.is("begin", reel.begin(3, 2, 5), 1);
                default -> {
                    Made.typeIn(reel, manyFrames(1).bytes());
                    due.is("read", reel.read(), 1);
                }
            }
            due.noPixel("not as it is now", reel, 0, 0);
            due.is("shown again", reel.show(-1), 1);
            due.is("a pixel", reel.pixel(0, 0), reel.pixel(0, 0));
        }
    }

    private static void pixelStays() {
        due.sentence("pixel: A pixel of what was shown latest");
        FrameReel reel = made();
        reel.show(1);
        reel.paint(2, 0, 0, 1);
        reel.paint(0, 3, 0, 1);
        reel.frame(4, 1, 0, 0, 0, 0);
        reel.first(false);
        reel.begin(0, 1, 0);
        reel.begin(1, 1, -1);
        reel.show(2);
        reel.show(-2);
        reel.about(0, 0);
        reel.about(99, 0);
        reel.write();
        reel.out(0);
        reel.type(1, 1);
        reel.type(1, 0);
        reel.words(1, 1, 1, 1);
        due.is("a fault", reel.read(), -1);
        reel.place();
        due.noPixel("outside", reel, 3, 0);
        due.pixel("none of these changes the reel", reel, 1, 1, 0xB0B0B0FF);
        reel.first(true);
        reel.show(-1);
        due.is("it was so", reel.first(true), 0);
        due.is("no picture of its own", reel.paint(-1, 0, 0, 1), FrameReel.UNKNOWN);
        due.pixel("the latest", reel, 1, 1, 0xA0A0A004);
    }

    private static void writeBytes() {
        due.sentence("write: The reel is written as a file: how many bytes.");
        FrameReel reel = new FrameReel();
        reel.begin(1, 1, 0);
        reel.frame(1, 1, 0, 0, 0, 0);
        int picture = 12 + 11 + 5;
        due.is("its own", reel.write(), 8 + 25 + 20 + picture + 38 + picture + 4 + 12);
        reel.first(true);
        due.is("the least", reel.write(), 8 + 25 + 20 + 38 + picture + 12);
        reel.begin(16, 16, HIGH);
        for (int k = 0; k < 8; k++) {
            reel.frame(16, 16, 0, 0, 2, 1);
        }
        picture = 12 + 11 + 16 * 65;
        due.is("the greatest", reel.write(), 8 + 25 + 20 + picture + 8 * (38 + picture + 4) + 12);
        int[] ending = {0, 0, 0, 0, 0x49, 0x45, 0x4E, 0x44, 0xAE, 0x42, 0x60, 0x82};
        for (int k = 0; k < 12; k++) {
            due.is("its end", reel.out(9968 - 12 + k), ending[k]);
        }
        // s1 and s2 of these rows go beyond 65521.
        reel.begin(16, 16, 0);
        reel.frame(16, 16, 0, 0, 0, 0);
        int[] pixels = new int[256];
        Arrays.fill(pixels, -1);
        for (int k = 0; k < 256; k++) {
            reel.paint(0, k % 16, k / 16, -1);
        }
        reel.first(true);
        int end = reel.write() - 12 - 4;
        int sum = Made.adler(Made.rows(16, 16, pixels));
        for (int k = 0; k < 4; k++) {
            due.is("a great sum", reel.out(end - 4 + k), sum >>> 24 - 8 * k & 255);
        }
    }

    /** The types of the chunks written, each with a space behind it. */
    private static String writtenTypes(FrameReel reel) {
        int size = reel.write();
        StringBuilder row = new StringBuilder();
        int at = 8;
        while (at < size) {
            for (int k = 4; k < 8; k++) {
                row.append((char) reel.out(at + k));
            }
            row.append(' ');
            at += 12 + Math.max(0, reel.out(at + 3));
        }
        return row.toString();
    }

    private static void writeOrder() {
        due.sentence("write: IHDR; acTL; if the default picture is the first frame's its fcTL; one"
            + " IDAT; for each other frame fcTL, one fdAT; IEND.");
        isMade("its own", readAgain(made()), false);
        FrameReel first = made();
        first.first(true);
        isMade("the first frame's", readAgain(first), true);
        for (int count : new int[] {1, 2, 8}) {
            FrameReel reel = new FrameReel();
            reel.begin(1, 1, 0);
            for (int k = 0; k < count; k++) {
                reel.frame(1, 1, 0, 0, 0, 0);
            }
            String frames = "fcTL fdAT ".repeat(count);
            due.is("its own, of " + count, writtenTypes(reel)
                .equals("IHDR acTL IDAT " + frames + "IEND ") ? 1 : 0, 1);
            reel.first(true);
            due.is("the first frame's, of " + count, writtenTypes(reel)
                .equals("IHDR acTL fcTL IDAT " + frames.substring(10) + "IEND ") ? 1 : 0, 1);
            reel.first(false);
            due.is("its own again, of " + count, writtenTypes(reel)
                .equals("IHDR acTL IDAT " + frames + "IEND ") ? 1 : 0, 1);
        }
    }

    private static void writePacked() {
        due.sentence("write: Packed bytes: 120 1, one plain block, the last one; filters 0; the"
            + " two numbers of two bytes of a fcTL are 1 and 10.");
        for (int[] size : new int[][] {{1, 1}, {12, 5}, {7, 9}, {16, 16}}) {
            FrameReel reel = new FrameReel();
            reel.begin(size[0], size[1], 0);
            reel.frame(size[0], size[1], 0, 0, 2, 1);
            reel.first(true);
            reel.write();
            int n = size[1] * (1 + 4 * size[0]);
            int[] control = {0, 1, 0, 10, 2, 1};
            for (int k = 0; k < 6; k++) {
                due.is("fcTL", reel.out(81 + k), control[k]);
            }
            int[] start = {120, 1, 1, n & 255, n >> 8, ~n & 255, ~n >> 8 & 255};
            for (int k = 0; k < 7; k++) {
                due.is(n + " bytes", reel.out(99 + k), start[k]);
            }
            for (int y = 0; y < size[1]; y++) {
                due.is("filter", reel.out(106 + y * (1 + 4 * size[0])), 0);
            }
            due.is("how many packed bytes", reel.out(93) << 8 | reel.out(94), n + 11);
        }
    }

    private static void writeState() {
        due.sentence("write: STATE (there is no reel, or no frame).");
        FrameReel reel = new FrameReel();
        due.is("no reel", reel.write(), FrameReel.STATE);
        due.is("nothing written", reel.out(0), FrameReel.NONE);
        reel.begin(2, 2, 0);
        due.is("no frame", reel.write(), FrameReel.STATE);
        due.is("nothing written", reel.out(0), FrameReel.NONE);
        reel.frame(1, 1, 0, 0, 0, 0);
        due.is("a frame", reel.write() > 0 ? 1 : 0, 1);
        reel.begin(2, 2, 0);
        due.is("no frame again", reel.write(), FrameReel.STATE);
    }

    private static void outByte() {
        due.sentence("out: Byte i of what was written latest; NONE when there is none such.");
        FrameReel reel = made();
        due.is("nothing written", reel.out(0), FrameReel.NONE);
        int more = reel.write();
        for (int i : new int[] {-1, LOW, HIGH, more, more + 1}) {
            due.is("byte " + i, reel.out(i), FrameReel.NONE);
        }
        due.is("the first", reel.out(0), 137);
        due.is("the last", reel.out(more - 1), 0x82);
        reel.begin(1, 1, 0);
        due.is("refused", reel.write(), FrameReel.STATE);
        due.is("the latest stays", reel.out(more - 1), 0x82);
        due.is("its width", reel.out(19), 3);
        reel.frame(1, 1, 0, 0, 0, 0);
        due.is("not written yet", reel.out(19), 3);
        int less = reel.write();
        due.is("its width", reel.out(19), 1);
        due.is("the last", reel.out(less - 1), 0x82);
        for (int i = less; i <= more; i++) {
            due.is("nothing of the one before", reel.out(i), FrameReel.NONE);
        }
    }

    private static void manyCalls() {
        due.sentence("An object is used for at most 512 calls after it has been made");
        Made file = Made.beforeDot().data(Made.DOT);
        byte[] bytes = file.chunk("abcd", new byte[8000 - 24 - file.size()]).end().bytes();
        FrameReel reel = new FrameReel();
        for (int k = 0; k < 500; k++) {
            due.is("call " + (k + 1), reel.words(number(bytes, 16 * k), number(bytes, 16 * k + 4),
                number(bytes, 16 * k + 8), number(bytes, 16 * k + 12)), 16 * k + 16);
        }
        due.is("call 501", reel.read(), 1);
        due.is("call 502", reel.place(), FrameReel.NONE);
        due.is("call 503", reel.frame(1, 1, 0, 0, 0, 0), 2);
        due.is("call 504", reel.first(false), 1);
        due.is("call 505", reel.paint(1, 0, 0, 5), 1);
        due.is("call 506", reel.about(2, 0), 2);
        due.is("call 507", reel.write(), 8 + 25 + 20 + 28 + 38 + 32 + 38 + 32 + 12);
        due.is("call 508", reel.out(0), 137);
        due.is("call 509", reel.show(1), 1);
        due.noPixel("call 510", reel, 1, 0);
        due.pixel("call 511", reel, 0, 0, 5);
        due.is("call 512", reel.begin(16, 16, 0), 1);
        reel = new FrameReel();
        reel.begin(16, 16, 0);
        for (int k = 0; k < 8; k++) {
            reel.frame(16, 16, 0, 0, 2, 1);
        }
        for (int k = 9; k < 511; k += 2) {
            due.is("the dearest calls", reel.show(7), 1);
            due.is("the dearest calls", reel.write(), 9968);
        }
        due.is("call 512", reel.show(-1), 1);
    }
}
