import java.nio.charset.StandardCharsets;
import java.util.Arrays;

/** Promises 4 and 5: read and place; files that are right, and the faults 1, 2, 3 and 4. */
final class ReadTest {
    private static final Due due = new Due("ReadTest");
    private static final byte[] DOT = Made.picture(1, 1, 0x11223344);

    public static void main(String[] args) {
        firstIsDefault();
        defaultOfItsOwn();
        eightFrames();
        othersAnywhere();
        splitData();
        signature();
        cutAnywhere();
        lengthsTooGreat();
        sums();
        headFaults();
        countFaults();
        controlFaults();
        regionFaults();
        controlOrder();
        defaultDataOrder();
        frameDataFaults();
        endFaults();
        otherFaults();
        otherLetters();
        whichFaultFirst();
        reelStays();
        due.end();
    }

    /** 4 x 3 with two frames, the default picture being the first one's. */
    private static Made twoFrames() {
        int[] pixels = new int[12];
        Arrays.setAll(pixels, k -> 0x01010101 * (k + 1));
        return new Made().head(4, 3).counts(2, 7).control(4, 3, 0, 0, 1, 0)
            .data(Made.picture(4, 3, pixels)).control(2, 1, 1, 2, 2, 1)
            .frameData(Made.picture(2, 1, 5, 6)).end();
    }

    private static Made dotStarted() {
        return Made.started(1, 1, 1).control(1, 1, 0, 0, 0, 0);
    }

    private static void faulty(String what, Made file, int fault, int place) {
        due.read(what, new FrameReel(), file.bytes(), -fault, place);
    }

    private static void fine(String what, Made file, int frames) {
        due.read(what, new FrameReel(), file.bytes(), frames, FrameReel.NONE);
    }

    private static void firstIsDefault() {
        FrameReel reel = new FrameReel();
        due.read("two frames", reel, twoFrames().bytes(), 2, FrameReel.NONE);
        int[] whole = {4, 3, 2, 7, 1};
        int[] second = {2, 1, 1, 2, 2, 1};
        for (int k = 0; k < 5; k++) {
            due.is("about " + k, reel.about(k, 1), whole[k]);
        }
        for (int k = 0; k < 6; k++) {
            due.is("about " + (k + 5), reel.about(k + 5, 1), second[k]);
        }
        reel.show(-1);
        due.pixel("the default picture", reel, 3, 2, 0x0C0C0C0C);
        due.is("no picture of its own", reel.paint(-1, 0, 0, 0), FrameReel.UNKNOWN);
        due.is("the tape is empty then", reel.read(), -1);
        due.is("its place", reel.place(), 0);
    }

    private static void defaultOfItsOwn() {
        FrameReel reel = new FrameReel();
        byte[] file = new Made().head(2, 1).counts(1, -1).data(Made.picture(2, 1, 8, 9))
            .control(1, 1, 1, 0, 0, 0).frameData(DOT).end().bytes();
        due.read("a default picture of its own", reel, file, 1, FrameReel.NONE);
        due.is("plays as an int", reel.about(3, 0), -1);
        due.is("not the first frame's", reel.about(4, 0), 0);
        reel.show(-1);
        due.pixel("its own", reel, 1, 0, 9);
        reel.show(0);
        due.pixel("the frame", reel, 0, 0, 0);
        due.pixel("the frame", reel, 1, 0, 0x11223344);
        due.is("its own is painted", reel.paint(-1, 1, 0, 4), 1);
    }

    private static void eightFrames() {
        Made file = Made.started(1, 1, 8).control(1, 1, 0, 0, 0, 0).data(DOT);
        for (int k = 1; k < 8; k++) {
            file.control(1, 1, 0, 0, 0, 0).frameData(DOT);
        }
        fine("eight frames", file.end(), 8);
        file = Made.started(16, 16, 1).data(Made.picture(16, 16, new int[256]))
            .control(16, 16, 0, 0, 0, 0).frameData(Made.picture(16, 16, new int[256]));
        fine("16 x 16", file.end(), 1);
    }

    private static void othersAnywhere() {
        Made file = new Made().head(1, 1).chunk("aAAA").counts(2, 0).chunk("zZzZ", DOT)
            .control(1, 1, 0, 0, 0, 0).data(DOT).chunk("idat").chunk("tEXt", (byte) 1)
            .control(1, 1, 0, 0, 0, 0).frameData(DOT).chunk("iend").chunk("aaaa").end();
        fine("other chunks", file, 2);
        fine("acTL behind others", new Made().head(1, 1).chunk("abcd").counts(1, 0).chunk("abcd")
            .data(DOT).chunk("abcd").control(1, 1, 0, 0, 0, 0).frameData(DOT).end(), 1);
    }

    private static void splitData() {
        Made file = dotStarted().data(new byte[0]);
        for (byte b : DOT) {
            file.data(new byte[] {b});
        }
        fine("IDAT byte by byte", file.data(new byte[0]).end(), 1);
        file = Made.started(1, 1, 1).data(DOT).control(1, 1, 0, 0, 0, 0);
        for (byte b : DOT) {
            file.frameData(new byte[] {b});
        }
        FrameReel reel = new FrameReel();
        due.read("fdAT byte by byte", reel, file.frameData(new byte[0]).end().bytes(), 1, -1);
        reel.show(0);
        due.pixel("fdAT byte by byte", reel, 0, 0, 0x11223344);
    }

    private static void signature() {
        for (int k = 0; k < 8; k++) {
            byte[] cut = Arrays.copyOf(Made.SIGNATURE, k);
            due.read("a short signature", new FrameReel(), cut, -1, k);
            byte[] other = twoFrames().bytes();
            other[k] ^= 1;
            due.read("another signature", new FrameReel(), other, -1, k);
            byte[] both = Arrays.copyOf(Made.SIGNATURE, k + 1);
            both[k] ^= (byte) 128;
            due.read("short and another", new FrameReel(), both, -1, k);
        }
    }

    private static void cutAnywhere() {
        byte[] file = twoFrames().bytes();
        for (int k = 8; k < file.length; k++) {
            due.read("cut at " + k, new FrameReel(), Arrays.copyOf(file, k), -2, k);
        }
        faulty("without IEND", dotStarted().data(DOT), 2, dotStarted().data(DOT).size());
    }

    private static void lengthsTooGreat() {
        for (int n : new int[] {1, 2, Integer.MAX_VALUE, -1, Integer.MIN_VALUE, -13}) {
            Made file = new Made().head(1, 1).raw(Made.numbers(n))
                .raw("acTL".getBytes(StandardCharsets.US_ASCII)).raw(Made.numbers(0));
            faulty("a chunk of " + n + " bytes that are not there", file, 2, file.size());
        }
    }

    private static void sums() {
        byte[] file = twoFrames().bytes();
        int at = 8;
        while (at < file.length) {
            int n = file[at + 2] << 8 | file[at + 3] & 255;
            for (int k = at + 4; k < at + 12 + n; k++) {
                byte[] wrong = file.clone();
                wrong[k] ^= (byte) (1 << k % 8);
                due.read("byte " + k + " turned", new FrameReel(), wrong, -3, at + 4);
            }
            at += 12 + n;
        }
    }

    private static void headFaults() {
        for (int wrong : new int[] {0, 17, -1, Integer.MIN_VALUE, 0x01000001}) {
            faulty("width " + wrong, new Made().head(wrong, 1), 4, 12);
            faulty("height " + wrong, new Made().head(1, wrong), 4, 12);
        }
        int[] right = {8, 6, 0, 0, 0};
        for (int k = 0; k < 5; k++) {
            for (int other : new int[] {1, 2, 7, 255}) {
                int[] last = right.clone();
                last[k] = other;
                faulty("byte " + k + " of the last", new Made().chunk("IHDR",
                    Made.headData(1, 1, last)), 4, 12);
            }
        }
        faulty("IHDR of 12", new Made().chunk("IHDR", Made.headData(1, 1, 8, 6, 0, 0)), 4, 12);
        faulty("IHDR of 14", new Made().chunk("IHDR", Made.headData(1, 1, 8, 6, 0, 0, 0, 0)),
            4, 12);
        faulty("IHDR of 0", new Made().chunk("IHDR"), 4, 12);
        faulty("IHDR twice", new Made().head(1, 1).head(1, 1), 4, 37);
        for (String type : new String[] {"acTL", "fcTL", "IDAT", "fdAT", "IEND", "abcd"}) {
            faulty(type + " first", new Made().chunk(type), 4, 12);
        }
        faulty("acTL first", new Made().counts(1, 0).head(1, 1), 4, 12);
    }

    private static void countFaults() {
        for (int wrong : new int[] {0, 9, -1, Integer.MIN_VALUE, 0x01000001}) {
            faulty(wrong + " frames", new Made().head(1, 1).counts(wrong, 0), 4, 37);
        }
        faulty("acTL of 7", new Made().head(1, 1).chunk("acTL", Made.small(0, 0, 0, 1, 0, 0, 0)),
            4, 37);
        faulty("acTL of 9", new Made().head(1, 1).chunk("acTL",
            Made.small(0, 0, 0, 1, 0, 0, 0, 0, 0)), 4, 37);
        Made file = Made.started(1, 1, 1);
        faulty("acTL twice", Made.started(1, 1, 1).counts(1, 0), 4, file.next());
        faulty("acTL behind fcTL", dotStarted().counts(1, 0), 4, dotStarted().next());
        file = dotStarted().data(DOT);
        int place = file.next();
        faulty("acTL behind IDAT", file.counts(1, 0), 4, place);
    }

    private static void controlFaults() {
        byte[] right = Made.controlData(0, 1, 1, 0, 0, 0, 0);
        for (int n : new int[] {0, 25, 27}) {
            faulty("fcTL of " + n, Made.started(1, 1, 1).chunk("fcTL", Arrays.copyOf(right, n)),
                4, 57);
        }
        for (int serial : new int[] {1, -1, 256}) {
            faulty("serial " + serial, Made.started(1, 1, 1).chunk("fcTL",
                Made.controlData(serial, 1, 1, 0, 0, 0, 0)), 4, 57);
        }
        for (int dispose : new int[] {3, 255}) {
            faulty("dispose " + dispose, Made.started(1, 1, 1).control(1, 1, 0, 0, dispose, 0),
                4, 57);
        }
        for (int blend : new int[] {2, 255}) {
            faulty("blend " + blend, Made.started(1, 1, 1).control(1, 1, 0, 0, 0, blend), 4, 57);
        }
        faulty("fcTL without acTL", new Made().head(1, 1).control(1, 1, 0, 0, 0, 0), 4, 37);
        Made file = dotStarted().data(DOT);
        int place = file.next();
        faulty("serial 2 for 1", file.chunk("fcTL", Made.controlData(2, 1, 1, 0, 0, 0, 0)),
            4, place);
        file = Made.started(1, 1, 2).control(1, 1, 0, 0, 0, 0).data(DOT);
        faulty("serial 0 again", file.chunk("fcTL", Made.controlData(0, 1, 1, 0, 0, 0, 0)),
            4, place);
    }

    private static void regionFaults() {
        int[][] wrong = {
            {0, 1, 0, 0}, {1, 0, 0, 0}, {4, 1, 0, 0}, {1, 3, 0, 0}, {1, 1, 3, 0}, {1, 1, 0, 2},
            {2, 1, 2, 0}, {1, 2, 0, 1}, {-1, 1, 1, 0}, {1, -1, 0, 1}, {1, 1, -1, 0}, {1, 1, 0, -1},
            {1, 1, Integer.MAX_VALUE, 0}, {1, 1, 0, Integer.MAX_VALUE},
            {Integer.MAX_VALUE, 1, Integer.MAX_VALUE, 0}, {2, 1, -1, 0}, {0, 0, 0, 0},
            {Integer.MIN_VALUE, 1, Integer.MIN_VALUE, 0}};
        for (int[] r : wrong) {
            Made file = Made.started(3, 2, 1).data(Made.picture(3, 2, new int[6]));
            int place = file.next();
            faulty("region " + Arrays.toString(r), file.control(r[0], r[1], r[2], r[3], 0, 0),
                4, place);
        }
        int[][] less = {{2, 2, 0, 0}, {3, 1, 0, 0}, {2, 2, 1, 0}, {3, 1, 0, 1}, {1, 1, 0, 0}};
        for (int[] r : less) {
            faulty("not the canvas " + Arrays.toString(r), Made.started(3, 2, 1)
                .control(r[0], r[1], r[2], r[3], 0, 0), 4, 57);
            Made file = Made.started(3, 2, 1).data(Made.picture(3, 2, new int[6]))
                .control(r[0], r[1], r[2], r[3], 2, 1)
                .frameData(Made.picture(r[0], r[1], new int[6])).end();
            fine("behind IDAT " + Arrays.toString(r), file, 1);
        }
    }

    private static void controlOrder() {
        Made file = Made.started(1, 1, 2).control(1, 1, 0, 0, 0, 0);
        int place = file.next();
        faulty("two fcTL before IDAT", file.control(1, 1, 0, 0, 0, 0), 4, place);
        file = Made.started(1, 1, 2).data(DOT).control(1, 1, 0, 0, 0, 0);
        place = file.next();
        faulty("fcTL right behind fcTL", file.control(1, 1, 0, 0, 0, 0), 4, place);
        file = dotStarted().data(DOT);
        place = file.next();
        faulty("more fcTL than told", file.control(1, 1, 0, 0, 0, 0), 4, place);
        file = Made.started(1, 1, 1).data(DOT).control(1, 1, 0, 0, 0, 0).frameData(DOT);
        place = file.next();
        faulty("more fcTL than told, behind fdAT", file.control(1, 1, 0, 0, 0, 0), 4, place);
    }

    private static void defaultDataOrder() {
        faulty("IDAT without acTL", new Made().head(1, 1).data(DOT), 4, 37);
        Made file = dotStarted().data(DOT).chunk("abcd");
        int place = file.next();
        faulty("IDAT behind another one's end", file.data(DOT), 4, place);
        file = Made.started(1, 1, 1).data(DOT).control(1, 1, 0, 0, 0, 0);
        place = file.next();
        faulty("IDAT behind a later fcTL", file.data(DOT), 4, place);
        file = Made.started(1, 1, 1).data(DOT).control(1, 1, 0, 0, 0, 0).frameData(DOT);
        place = file.next();
        faulty("IDAT behind fdAT", file.data(DOT), 4, place);
    }

    private static void frameDataFaults() {
        faulty("fdAT before IDAT", dotStarted().frameData(DOT), 4, dotStarted().next());
        faulty("fdAT without fcTL", Made.started(1, 1, 1).frameData(DOT), 4, 57);
        Made file = Made.started(1, 1, 1).data(DOT);
        int place = file.next();
        faulty("fdAT right behind IDAT", file.frameData(DOT), 4, place);
        for (int n = 0; n < 4; n++) {
            file = Made.started(1, 1, 1).data(DOT).control(1, 1, 0, 0, 0, 0);
            place = file.next();
            faulty("fdAT of " + n, file.chunk("fdAT", new byte[n]), 4, place);
        }
        for (int serial : new int[] {0, 2, -1}) {
            file = Made.started(1, 1, 1).data(DOT).control(1, 1, 0, 0, 0, 0);
            place = file.next();
            faulty("fdAT of serial " + serial,
                file.chunk("fdAT", Made.joined(Made.numbers(serial), DOT)), 4, place);
        }
        file = Made.started(1, 1, 1).data(DOT).control(1, 1, 0, 0, 0, 0).frameData(new byte[0]);
        place = file.next();
        faulty("a second fdAT of the same serial",
            file.chunk("fdAT", Made.joined(Made.numbers(1), DOT)), 4, place);
        file = Made.started(1, 1, 1).data(DOT).control(1, 1, 0, 0, 0, 0).frameData(DOT)
            .chunk("abcd");
        place = file.next();
        faulty("fdAT behind another one's end", file.frameData(new byte[0]), 4, place);
    }

    private static void endFaults() {
        Made file = dotStarted().data(DOT);
        int place = file.next();
        faulty("IEND of 1", file.chunk("IEND", (byte) 0), 4, place);
        faulty("IEND without IDAT", Made.started(1, 1, 1).end(), 4, 57);
        faulty("IEND behind IHDR", new Made().head(1, 1).end(), 4, 37);
        faulty("IEND behind a first fcTL", dotStarted().end(), 4, dotStarted().next());
        file = Made.started(1, 1, 1).data(DOT).control(1, 1, 0, 0, 0, 0);
        place = file.next();
        faulty("IEND behind a later fcTL", file.end(), 4, place);
        file = Made.started(1, 1, 2).control(1, 1, 0, 0, 0, 0).data(DOT);
        place = file.next();
        faulty("fewer fcTL than told", file.end(), 4, place);
        file = Made.started(1, 1, 1).data(DOT);
        place = file.next();
        faulty("no fcTL at all", file.end(), 4, place);
        file = dotStarted().data(DOT).end();
        place = file.size();
        faulty("a byte behind IEND", file.raw((byte) 0), 4, place);
        faulty("more behind IEND", file.end(), 4, place);
    }

    private static void otherFaults() {
        faulty("another chunk behind fcTL", dotStarted().chunk("abcd"), 4, dotStarted().next());
        Made file = Made.started(1, 1, 1).data(DOT).control(1, 1, 0, 0, 0, 0);
        int place = file.next();
        faulty("another chunk behind a later fcTL", file.chunk("abcd"), 4, place);
        for (String type : new String[] {"PLTE", "Abcd", "ACTL", "Zzzz", "FCTL", "FDAT"}) {
            faulty(type, Made.started(1, 1, 1).chunk(type), 4, 57);
        }
    }

    private static void otherLetters() {
        for (int k = 0; k < 4; k++) {
            for (int b = 0; b < 256; b++) {
                char[] type = {'a', 'b', 'c', 'd'};
                type[k] = (char) b;
                boolean small = b >= 'a' && b <= 'z';
                boolean fits = small || k > 0 && b >= 'A' && b <= 'Z';
                Made file = dotStarted().data(DOT);
                int place = file.next();
                file.chunk(new String(type)).end();
                due.read("byte " + b + " in a type", new FrameReel(), file.bytes(),
                    fits ? 1 : -4, fits ? -1 : place);
            }
        }
    }

    private static void whichFaultFirst() {
        byte[] bad = {120, 1};
        byte[] badRows = Made.packed(new byte[] {5, 0, 0, 0, 0});
        for (String type : new String[] {"abcd", "PLTE", "IHDR", "acTL", "fcTL", "fdAT", "IEND"}) {
            Made file = dotStarted().data(bad);
            int place = file.next();
            faulty("5 before 4: " + type, file.chunk(type), 5, place);
            faulty("6 before 4: " + type, dotStarted().data(badRows).chunk(type), 6,
                dotStarted().data(badRows).next());
            byte[] wrongSum = file.bytes();
            wrongSum[wrongSum.length - 1] ^= 1;
            due.read("3 before 5", new FrameReel(), wrongSum, -3, place);
            due.read("2 before 5", new FrameReel(),
                Arrays.copyOf(wrongSum, wrongSum.length - 1), -2, wrongSum.length - 1);
        }
        Made file = Made.started(1, 1, 1).data(DOT).control(1, 1, 0, 0, 0, 0).frameData(bad);
        int place = file.next();
        faulty("a fdAT picture is over", file.data(DOT), 5, place);
        file = Made.started(1, 1, 1).data(DOT).control(1, 1, 0, 0, 0, 0).frameData(bad);
        faulty("a fdAT that goes on is looked at first", file.chunk("fdAT"), 4, place);
        file = Made.started(1, 1, 1).data(DOT).control(1, 1, 0, 0, 0, 0).frameData(badRows);
        place = file.next();
        faulty("rows of a fdAT", file.end(), 6, place);
    }

    private static void reelStays() {
        FrameReel reel = new FrameReel();
        due.read("two frames", reel, twoFrames().bytes(), 2, FrameReel.NONE);
        reel.show(1);
        byte[] wrong = Made.started(1, 1, 1).control(1, 1, 0, 0, 0, 0).data(DOT).end().raw((byte) 7)
            .bytes();
        due.read("a fault at the end", reel, wrong, -4, wrong.length - 1);
        due.is("the reel stays", reel.about(0, 0), 4);
        due.is("its frames stay", reel.about(2, 0), 2);
        due.is("its plays stay", reel.about(3, 0), 7);
        due.pixel("what was shown stays", reel, 1, 2, 5);
        due.pixel("what was shown stays", reel, 0, 0, 0);
        due.is("a fault empties the tape", reel.type(0, 1), 1);
        due.is("place till the next reading", reel.place(), wrong.length - 1);
        reel.read();
        due.is("place of the next reading", reel.place(), 0);
        due.read("a new reel", reel, dotStarted().data(DOT).end().bytes(), 1, FrameReel.NONE);
        due.noPixel("nothing is shown of it", reel, 0, 0);
        due.is("its width", reel.about(0, 0), 1);
        due.is("its plays", reel.about(3, 0), 0);
        due.is("its frames", reel.about(2, 0), 1);
    }
}
