import java.nio.charset.StandardCharsets;
import java.util.Arrays;

/** Terms: the edges of a file, its chunks and their order, sentence by sentence. */
final class FileEdgeTest {
    private static final Due due = new Due("FileEdgeTest");
    private static final int LOW = Integer.MIN_VALUE, HIGH = Integer.MAX_VALUE;
    private static final byte[] DOT = Made.DOT;
    private static final byte[] NOTHING = {};

    public static void main(String[] args) {
        highestFirst();
        firstEightBytes();
        dataBytes();
        sum();
        canvas();
        head();
        frames();
        plays();
        controlLength();
        region();
        twoNumbers();
        disposeAndBlend();
        defaultData();
        frameData();
        end();
        headFirst();
        endLast();
        countsOnce();
        dataTogether();
        controlBefore();
        controlBehind();
        serials();
        asManyAsTold();
        others();
        othersBetween();
        othersNot();
        due.end();
    }

    private static void highestFirst() {
        due.sentence("NUMBERS of a file have four bytes, or as said, the highest first.");
        due.fault("a width with its lowest byte first", new Made().mark().head(0x01000000, 1), 4);
        due.fault("frames with their lowest first",
            new Made().head(1, 1).mark().counts(0x01000000, 0), 4);
        FrameReel reel = new FrameReel();
        due.read("all four bytes", reel, new Made().head(1, 1).counts(1, 0x01020304)
            .control(1, 1, 0, 0, 0, 0).data(DOT).end().bytes(), 1, FrameReel.NONE);
        due.is("plays of four bytes", reel.about(3, 0), 0x01020304);
        for (int n : new int[] {255, 256, 257, 4096}) {
            due.fine("a chunk of " + n, Made.beforeDot().data(DOT).chunk("abcd", new byte[n])
                .end(), 1);
        }
    }

    private static void firstEightBytes() {
        due.sentence("A FILE: the bytes 137 80 78 71 13 10 26 10");
        byte[] file = Made.beforeDot().data(DOT).end().bytes();
        for (int k = 0; k < 8; k++) {
            for (int other : new int[] {0, 255, file[k] + 1, file[k] - 1, file[k] ^ 128}) {
                byte[] wrong = file.clone();
                wrong[k] = (byte) other;
                due.read("another byte " + k, new FrameReel(), wrong, -1, k);
            }
        }
    }

    /** A right IHDR, then a chunk that tells n bytes and has these. */
    private static Made tells(int n, byte[] data) {
        return new Made().head(1, 1).raw(Made.numbers(n))
            .raw("abcd".getBytes(StandardCharsets.US_ASCII)).raw(data);
    }

    private static void dataBytes() {
        due.sentence("CHUNKS: how many DATA bytes n, a TYPE of four bytes (here as letters), the"
            + " data, and their SUM");
        due.fine("no data", Made.beforeDot().data(DOT).chunk("abcd").end(), 1);
        Made full = Made.beforeDot().data(DOT);
        int rest = 8000 - full.size() - 12 - 12;
        due.fine("data up to a full tape",
            full.chunk("abcd", new byte[rest]).end(), 1);
        due.is("a full tape", full.size(), 8000);
        Made one = tells(1, new byte[4]);
        due.fault("one byte more than there are", one, 2, one.size());
        // Behind wrong additions these would end before they begin, or within the tape.
        for (int n : new int[] {-1, -4, -8, -12, -13, -33, -45, LOW, HIGH, HIGH - 7, HIGH - 40,
                0x10000, 0x1000000}) {
            Made file = tells(n, new byte[40]);
            due.fault(n + " bytes", file, 2, file.size());
        }
        due.fault("one byte less than there are", tells(0, new byte[5]), 3, 37);
    }

    private static void sum() {
        due.sentence("the sum is x xor FFFFFFFF");
        byte[] every = new byte[256];
        for (int k = 0; k < 256; k++) {
            every[k] = (byte) k;
        }
        due.fine("each byte there is", Made.beforeDot().data(DOT).chunk("abcd", every).end(), 1);
        for (int k = 0; k < 256; k++) {
            due.fine("one byte " + k, Made.beforeDot().data(DOT).chunk("abcd", every[k]).end(), 1);
        }
        Made file = Made.beforeDot().data(DOT).mark().end();
        byte[] right = file.bytes();
        due.is("the sum of IEND, as it is known", Arrays.hashCode(Arrays.copyOfRange(right,
            right.length - 4, right.length)), Arrays.hashCode(Made.numbers(0xAE426082)));
        for (int bit = 0; bit < 32; bit++) {
            byte[] wrong = right.clone();
            wrong[right.length - 1 - bit / 8] ^= (byte) (1 << bit % 8);
            due.read("bit " + bit + " of a sum", new FrameReel(), wrong, -3, file.marked());
        }
        for (int other : new int[] {0, -1, ~0xAE426082, 0x826042AE}) {
            byte[] wrong = Made.joined(Arrays.copyOf(right, right.length - 4),
                Made.numbers(other));
            due.read("another sum", new FrameReel(), wrong, -3, file.marked());
        }
    }

    private static void canvas() {
        due.sentence("a CANVAS of width times height PIXELS (1 to 16 each)");
        for (int width : new int[] {0, 1, 16, 17}) {
            for (int height : new int[] {0, 1, 16, 17}) {
                Made file = new Made().mark().head(width, height);
                if (width % 17 == 0 || height % 17 == 0) {
                    due.fault(width + " x " + height, file, 4);
                } else {
                    due.fine(width + " x " + height, file.counts(1, 0)
                        .control(width, height, 0, 0, 0, 0)
                        .data(Made.picture(width, height, new int[256])).end(), 1);
                }
            }
        }
        for (int wrong : new int[] {-1, -16, LOW, HIGH, LOW + 1, 0x10001, 257}) {
            due.fault("width " + wrong, new Made().mark().head(wrong, 1), 4);
            due.fault("height " + wrong, new Made().mark().head(1, wrong), 4);
        }
    }

    private static void head() {
        due.sentence("IHDR, 13 bytes: width, height, 8, 6, 0, 0, 0");
        byte[] right = Made.headData(1, 1, 8, 6, 0, 0, 0);
        for (int n : new int[] {0, 4, 8, 12, 14, 17}) {
            due.fault("IHDR of " + n, new Made().mark().chunk("IHDR", Arrays.copyOf(right, n)),
                4);
        }
        for (int k = 8; k < 13; k++) {
            for (int b = 0; b < 256; b++) {
                byte[] data = right.clone();
                data[k] = (byte) b;
                Made file = new Made().mark().chunk("IHDR", data);
                if (data[k] != right[k]) {
                    due.fault("byte " + k + " is " + b, file, 4);
                } else {
                    due.fault("nothing behind it", file, 2, file.size());
                }
            }
        }
    }

    /** A file of that many frames, the first one being the default picture's. */
    private static Made manyFrames(int told, int there) {
        Made file = Made.started(1, 1, told).control(1, 1, 0, 0, 0, 0).data(DOT);
        for (int k = 1; k < there; k++) {
            file.mark().control(1, 1, 0, 0, 0, 0).frameData(DOT);
        }
        return file;
    }

    private static void frames() {
        due.sentence("acTL, 8: how many FRAMES (1 to 8)");
        for (int n : new int[] {0, 9, 10, -1, -8, LOW, LOW + 1, HIGH, 0x10001, 257}) {
            due.fault(n + " frames", new Made().head(1, 1).mark().counts(n, 0), 4);
        }
        for (int n = 1; n <= 8; n++) {
            due.fine(n + " frames", manyFrames(n, n).end(), n);
        }
        byte[] right = Made.numbers(1, 0, 0);
        for (int n : new int[] {0, 4, 7, 9, 12}) {
            due.fault("acTL of " + n, new Made().head(1, 1).mark()
                .chunk("acTL", Arrays.copyOf(right, n)), 4);
        }
    }

    private static void plays() {
        due.sentence("how often they play (any number; as an int)");
        for (int plays : new int[] {0, 1, HIGH, LOW, -1, -2}) {
            FrameReel reel = new FrameReel();
            due.read("plays " + plays, reel, new Made().head(1, 1).counts(1, plays)
                .control(1, 1, 0, 0, 0, 0).data(DOT).end().bytes(), 1, FrameReel.NONE);
            due.is("about its plays", reel.about(3, 0), plays);
            reel.write();
            int there = reel.out(45) << 24 | reel.out(46) << 16 | reel.out(47) << 8
                | reel.out(48);
            due.is("its plays written", there, plays);
        }
    }

    private static void controlLength() {
        due.sentence("fcTL, 26");
        byte[] right = Arrays.copyOf(Made.controlData(0, 1, 1, 0, 0, 0, 0), 30);
        for (int n : new int[] {0, 4, 20, 24, 25, 27, 30}) {
            due.fault("fcTL of " + n, Made.started(1, 1, 1).mark()
                .chunk("fcTL", Arrays.copyOf(right, n)), 4);
            due.fault("a later fcTL of " + n, Made.started(1, 1, 1).data(DOT).mark()
                .chunk("fcTL", Arrays.copyOf(right, n)), 4);
        }
    }

    private static Made withRegion(int width, int height, int x, int y) {
        return Made.started(5, 4, 1).data(Made.picture(5, 4, new int[20])).mark()
            .control(width, height, x, y, 0, 0);
    }

    private static void region() {
        due.sentence("width, height, x, y of a REGION (not empty, within the canvas)");
        int[][] right = {{5, 4, 0, 0}, {1, 1, 0, 0}, {1, 1, 4, 3}, {5, 1, 0, 3}, {1, 4, 4, 0},
            {4, 3, 1, 1}};
        for (int[] r : right) {
            due.fine("region " + Arrays.toString(r), withRegion(r[0], r[1], r[2], r[3])
                .frameData(Made.picture(r[0], r[1], new int[20])).end(), 1);
        }
        int[][] wrong = {{0, 1, 0, 0}, {1, 0, 0, 0}, {0, 0, 5, 4}, {0, 4, 5, 0}, {5, 0, 0, 4},
            {6, 1, 0, 0}, {1, 5, 0, 0}, {1, 1, 5, 0}, {1, 1, 0, 4}, {5, 4, 1, 0}, {5, 4, 0, 1},
            {-1, 1, 2, 0}, {1, -1, 0, 2}, {1, 1, -1, 0}, {1, 1, 0, -1},
            {2, 1, -1, 0}, {1, 2, 0, -1}, {LOW, 1, LOW, 0}, {1, LOW, 0, LOW},
            {HIGH, 1, 2, 0}, {1, HIGH, 0, 2}, {1, 1, HIGH, 0}, {1, 1, 0, HIGH},
            {2, 1, HIGH, 0}, {1, 2, 0, HIGH}, {LOW, 1, 1, 0}, {1, LOW, 0, 1}, {1, 1, LOW, 0}};
        for (int[] r : wrong) {
            due.fault("region " + Arrays.toString(r), withRegion(r[0], r[1], r[2], r[3]), 4);
        }
    }

    private static void twoNumbers() {
        due.sentence("two numbers of two bytes (not looked at)");
        for (int both : new int[] {0, -1, LOW, HIGH, 0x00010000, 0x0001000A}) {
            byte[] data = Made.joined(Made.numbers(0, 1, 1, 0, 0, both), Made.small(0, 0));
            FrameReel reel = new FrameReel();
            due.read("both are " + both, reel, Made.started(1, 1, 1).chunk("fcTL", data)
                .data(DOT).end().bytes(), 1, FrameReel.NONE);
            reel.write();
            due.is("written as 1 and 10", reel.out(81) << 24 | reel.out(82) << 16
                | reel.out(83) << 8 | reel.out(84), 0x0001000A);
        }
    }

    private static void disposeAndBlend() {
        due.sentence("DISPOSE (one byte: 0, 1, 2), BLEND (0, 1)");
        for (int b = 0; b < 256; b++) {
            Made file = Made.started(1, 1, 1).mark().control(1, 1, 0, 0, b, 0);
            if (b <= 2) {
                due.fine("dispose " + b, file.data(DOT).end(), 1);
            } else {
                due.fault("dispose " + b, file, 4);
            }
            file = Made.started(1, 1, 1).mark().control(1, 1, 0, 0, 0, b);
            if (b <= 1) {
                due.fine("blend " + b, file.data(DOT).end(), 1);
            } else {
                due.fault("blend " + b, file, 4);
            }
        }
    }

    private static void defaultData() {
        due.sentence("IDAT: packed bytes.");
        due.fine("an empty IDAT before", Made.beforeDot().data(NOTHING).data(DOT).end(), 1);
        due.fine("an empty IDAT behind", Made.beforeDot().data(DOT).data(NOTHING).end(), 1);
        due.fault("empty IDAT alone", Made.beforeDot().data(NOTHING).data(NOTHING).mark().end(),
            5);
    }

    private static void frameData() {
        due.sentence("fdAT: a serial, then packed bytes.");
        for (int n = 0; n < 4; n++) {
            byte[] cut = Arrays.copyOf(Made.numbers(1), n);
            due.fault("fdAT of " + n, Made.beforeFrameDot().mark().chunk("fdAT", cut), 4);
            cut = Arrays.copyOf(Made.numbers(2), n);
            due.fault("a second fdAT of " + n,
                Made.beforeFrameDot().frameData(DOT).mark().chunk("fdAT", cut), 4);
        }
        due.fine("a serial alone before", Made.beforeFrameDot().frameData(NOTHING).frameData(DOT)
            .end(), 1);
        due.fine("a serial alone behind", Made.beforeFrameDot().frameData(DOT).frameData(NOTHING)
            .end(), 1);
        due.fault("nothing but a serial", Made.beforeFrameDot().frameData(NOTHING).mark().end(),
            5);
    }

    private static void end() {
        due.sentence("IEND: none.");
        for (int n : new int[] {1, 4, 300}) {
            due.fault("IEND of " + n, Made.beforeDot().data(DOT).mark()
                .chunk("IEND", new byte[n]), 4);
        }
    }

    private static void headFirst() {
        due.sentence("ORDER: IHDR first");
        for (String type : new String[] {"abcd", "acTL", "fcTL", "IDAT", "fdAT", "IEND", "ABCD"}) {
            due.fault(type + " first", new Made().mark().chunk(type).head(1, 1), 4);
        }
        due.fault("right but for its place", new Made().mark().counts(1, 0).head(1, 1), 4);
        due.fault("IHDR twice", new Made().head(1, 1).mark().head(1, 1), 4);
        due.fault("IHDR behind acTL", Made.started(1, 1, 1).mark().head(1, 1), 4);
        due.fault("IHDR behind fcTL", Made.beforeDot().mark().head(1, 1), 4);
        due.fault("IHDR behind IDAT", Made.beforeDot().data(DOT).mark().head(1, 1), 4);
        due.fault("IHDR behind fdAT", Made.beforeFrameDot().frameData(DOT).mark().head(1, 1), 4);
    }

    private static void endLast() {
        due.sentence("IEND last and nothing behind it");
        Made file = Made.beforeDot().data(DOT).end();
        int end = file.size();
        due.fine("nothing behind it", file, 1);
        due.fault("a byte behind it", file.raw((byte) 0), 4, end);
        due.fault("two bytes behind it", file.raw((byte) 0), 4, end);
        file = Made.beforeDot().data(DOT).end().end();
        due.fault("IEND again", file, 4, end);
        file = Made.beforeDot().data(DOT);
        due.fault("no IEND", file, 2, file.size());
    }

    private static void countsOnce() {
        due.sentence("acTL stands before the first IDAT, just once");
        due.fault("twice", Made.started(1, 1, 1).mark().counts(1, 0), 4);
        due.fault("twice, not the same", Made.started(1, 1, 1).mark().counts(2, 5), 4);
        due.fault("twice, with another between",
            Made.started(1, 1, 1).chunk("abcd").mark().counts(1, 0), 4);
        due.fault("behind the first fcTL", Made.beforeDot().mark().counts(1, 0), 4);
        due.fault("twice, behind IDAT", Made.beforeDot().data(DOT).mark().counts(1, 0), 4);
        due.fault("twice, behind fdAT",
            Made.beforeFrameDot().frameData(DOT).mark().counts(1, 0), 4);
        due.sentence("an IDAT without it before is 4");
        due.fault("no acTL", new Made().head(1, 1).mark().data(DOT).end(), 4);
        due.fault("acTL behind", new Made().head(1, 1).mark().data(DOT).counts(1, 0), 4);
        due.fault("no acTL, another before", new Made().head(1, 1).chunk("abcd").mark().data(DOT),
            4);
    }

    private static void dataTogether() {
        due.sentence("All IDAT stand one behind the other; the packed bytes of the DEFAULT picture"
            + " are theirs together.");
        for (int cut = 0; cut <= DOT.length; cut++) {
            FrameReel reel = new FrameReel();
            due.read("cut at " + cut, reel, Made.beforeDot().data(Arrays.copyOf(DOT, cut))
                .data(Arrays.copyOfRange(DOT, cut, DOT.length)).end().bytes(), 1, FrameReel.NONE);
            reel.show(-1);
            due.pixel("cut at " + cut, reel, 0, 0, Made.DOT_COLOUR);
        }
        due.fault("two pictures are not one", Made.beforeDot().data(DOT).data(DOT).mark().end(),
            5);
        due.fault("another between", Made.beforeDot().data(DOT).chunk("abcd").mark().data(NOTHING),
            4);
        due.fault("a fcTL between", Made.beforeFrameDot().mark().data(NOTHING), 4);
        due.fault("a fdAT between", Made.beforeFrameDot().frameData(DOT).mark().data(NOTHING), 4);
    }

    private static void controlBefore() {
        due.sentence("A fcTL before them (one at most, behind acTL) makes it the first frame: its"
            + " region is the canvas then.");
        FrameReel reel = new FrameReel();
        due.read("one", reel, Made.beforeDot().data(DOT).end().bytes(), 1, FrameReel.NONE);
        due.is("the first frame's", reel.about(4, 0), 1);
        due.read("none", reel, Made.beforeFrameDot().frameData(DOT).end().bytes(), 1,
            FrameReel.NONE);
        due.is("one of its own", reel.about(4, 0), 0);
        due.fault("two", Made.started(1, 1, 2).control(1, 1, 0, 0, 0, 0).mark()
            .control(1, 1, 0, 0, 0, 0), 4);
        due.fault("before acTL", new Made().head(1, 1).mark().control(1, 1, 0, 0, 0, 0)
            .counts(1, 0).data(DOT).end(), 4);
        int[][] less = {{2, 3, 0, 0}, {3, 2, 0, 0}, {2, 3, 1, 0}, {3, 2, 0, 1}, {1, 1, 0, 0},
            {2, 2, 1, 1}};
        for (int[] r : less) {
            due.fault("region " + Arrays.toString(r), Made.started(3, 3, 1).mark()
                .control(r[0], r[1], r[2], r[3], 0, 0), 4);
        }
    }

    private static void controlBehind() {
        due.sentence("Each other fcTL stands behind them, and one fdAT or more right behind it:"
            + " that frame's packed bytes.");
        for (int cut = 0; cut <= DOT.length; cut++) {
            FrameReel reel = new FrameReel();
            due.read("cut at " + cut, reel, Made.beforeFrameDot()
                .frameData(Arrays.copyOf(DOT, cut))
                .frameData(Arrays.copyOfRange(DOT, cut, DOT.length)).end().bytes(), 1,
                FrameReel.NONE);
            reel.show(0);
            due.pixel("cut at " + cut, reel, 0, 0, Made.DOT_COLOUR);
        }
        due.fault("no fdAT but IEND", Made.beforeFrameDot().mark().end(), 4);
        due.fault("no fdAT but fcTL", Made.started(1, 1, 2).data(DOT).control(1, 1, 0, 0, 0, 0)
            .mark().control(1, 1, 0, 0, 0, 0), 4);
        due.fault("no fdAT but IDAT", Made.beforeFrameDot().mark().data(DOT), 4);
        due.fault("no fcTL before fdAT", Made.started(1, 1, 1).data(DOT).mark().frameDataOf(0, DOT),
            4);
        due.fault("fdAT before IDAT", Made.beforeDot().mark().frameData(DOT), 4);
        due.fault("fdAT before all", Made.started(1, 1, 1).mark().frameData(DOT), 4);
        due.fault("fdAT behind the default picture's IDAT",
            Made.started(1, 1, 2).control(1, 1, 0, 0, 0, 0).data(DOT).mark().frameData(DOT), 4);
    }

    private static void serials() {
        due.sentence("Serials of fcTL and fdAT are 0, 1, 2, .. in the order of the file.");
        for (int wrong : new int[] {1, 2, -1, LOW, 0x01000000}) {
            due.fault("first " + wrong, Made.started(1, 1, 1).mark().controlOf(wrong, 1, 1), 4);
        }
        for (int wrong : new int[] {0, 2, -1, LOW + 1, 0x01000000}) {
            due.fault("fcTL for 1: " + wrong, Made.started(1, 1, 2).controlOf(0, 1, 1).data(DOT)
                .mark().controlOf(wrong, 1, 1), 4);
            due.fault("fdAT for 1: " + wrong, Made.started(1, 1, 1).data(DOT).controlOf(0, 1, 1)
                .mark().frameDataOf(wrong, DOT), 4);
        }
        for (int wrong : new int[] {0, 1, 3, -2}) {
            due.fault("fdAT for 2: " + wrong, Made.started(1, 1, 1).data(DOT).controlOf(0, 1, 1)
                .frameDataOf(1, DOT).mark().frameDataOf(wrong, NOTHING), 4);
            due.fault("fcTL for 2: " + wrong, Made.started(1, 1, 2).data(DOT).controlOf(0, 1, 1)
                .frameDataOf(1, DOT).mark().controlOf(wrong, 1, 1), 4);
        }
        // IDAT and others have none; 300 of them need more than a byte.
        Made file = Made.beforeFrameDot().frameData(DOT);
        for (int k = 2; k < 300; k++) {
            file.frameData(NOTHING);
        }
        due.fine("300 serials", file.chunk("abcd").end(), 1);
        FrameReel reel = new FrameReel();
        for (int k = 0; k < 2; k++) {
            due.read("from 0 on in each file", reel, Made.beforeDot().data(DOT).end().bytes(), 1,
                FrameReel.NONE);
        }
    }

    private static void asManyAsTold() {
        due.sentence("There are as many fcTL as acTL tells.");
        for (int told = 1; told <= 8; told++) {
            due.fault("one more than " + told, manyFrames(told, told + 1).end(), 4);
            if (told > 1) {
                due.fault("one less than " + told, manyFrames(told, told - 1).mark().end(), 4);
            }
        }
        due.fault("none", Made.started(1, 1, 1).data(DOT).mark().end(), 4);
    }

    private static Made withOther(String type) {
        return Made.beforeDot().data(DOT).mark().chunk(type).end();
    }

    private static void others() {
        due.sentence("Other chunks (types of four letters A .. Z, a .. z) whose first letter is"
            + " small may stand anywhere behind IHDR");
        String letters = "AZaz";
        String edges = "@[`{\0\u00FF\u00E1 09";
        for (int k = 0; k < 4; k++) {
            for (char c : (letters + edges).toCharArray()) {
                StringBuilder type = new StringBuilder("qQqQ");
                type.setCharAt(k, c);
                boolean fits = letters.indexOf(c) >= (k == 0 ? 2 : 0);
                if (fits) {
                    due.fine("type " + type, withOther(type.toString()), 1);
                } else {
                    due.fault("type " + type, withOther(type.toString()), 4);
                }
            }
        }
        due.fine("anywhere", new Made().head(1, 1).chunk("aaaa").chunk("aaaa").counts(2, 0)
            .chunk("aaaa").control(1, 1, 0, 0, 0, 0).data(DOT).chunk("aaaa")
            .control(1, 1, 0, 0, 0, 0).frameData(DOT).chunk("aaaa").end(), 2);
        due.fine("nearly the known ones", new Made().head(1, 1).chunk("iHDR").chunk("acTl")
            .chunk("fctl").chunk("iDAT").chunk("fdat").chunk("iEND").counts(1, 0)
            .control(1, 1, 0, 0, 0, 0).data(DOT).end(), 1);
        due.fault("before IHDR", new Made().mark().chunk("aaaa").head(1, 1), 4);
    }

    private static void othersBetween() {
        due.sentence("but not between the IDAT or the fdAT of one picture, nor between a fcTL and"
            + " its data");
        byte[] start = Arrays.copyOf(DOT, 3);
        byte[] rest = Arrays.copyOfRange(DOT, 3, DOT.length);
        due.fault("within a picture's IDAT", Made.beforeDot().data(start).mark().chunk("aaaa")
            .data(rest).end(), 5);
        due.fault("between IDAT", Made.beforeDot().data(DOT).chunk("aaaa").mark().data(NOTHING)
            .end(), 4);
        due.fault("within a picture's fdAT", Made.beforeFrameDot().frameData(start).mark()
            .chunk("aaaa").frameData(rest).end(), 5);
        due.fault("between fdAT", Made.beforeFrameDot().frameData(DOT).chunk("aaaa").mark()
            .frameData(NOTHING).end(), 4);
        due.fault("between fcTL and IDAT", Made.beforeDot().mark().chunk("aaaa").data(DOT).end(),
            4);
        due.fault("between fcTL and fdAT", Made.beforeFrameDot().mark().chunk("aaaa")
            .frameData(DOT).end(), 4);
    }

    private static void othersNot() {
        due.sentence("others may not.");
        for (String type : new String[] {"PLTE", "Aaaa", "Zzzz", "ACTL", "FCTL", "FDAT", "Iend"}) {
            due.fault(type + " behind IHDR", new Made().head(1, 1).mark().chunk(type), 4);
            due.fault(type + " behind IDAT", withOther(type), 4);
        }
    }
}
