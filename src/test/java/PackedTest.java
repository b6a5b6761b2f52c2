import java.util.Arrays;
import java.util.Random;
import java.util.zip.Deflater;

/** Promise 4: packed bytes, fault 5. */
final class PackedTest {
    private static final Due due = new Due("PackedTest");
    // The rows of one pixel.
    private static final byte[] DOT = {0, 1, 2, 3, 4};

    public static void main(String[] args) {
        firstTwoBytes();
        plainBlocks();
        severalBlocks();
        fixedSymbols();
        fixedMatches();
        noSuchSymbols();
        beyondWhatWasPutOut();
        room();
        sumAndEnd();
        cutAnywhere();
        toldPlainly();
        toldCounts();
        toldRepeats();
        toldTellers();
        toldSymbols();
        toldDistances();
        longestCodes();
        asTheLibraryPacks();
        due.end();
    }

    private static int answer(byte[] packed, int width, int height, FrameReel reel) {
        Made.typeIn(reel, Made.started(width, height, 1).control(width, height, 0, 0, 0, 0)
            .data(packed).end().bytes());
        return reel.read();
    }

    /** The packed bytes put out these rows. */
    private static void puts(String what, byte[] packed, int width, int height, byte[] rows) {
        FrameReel reel = new FrameReel();
        due.is(what, answer(packed, width, height, reel), 1);
        reel.show(0);
        int at = 0;
        for (int y = 0; y < height; y++) {
            at++;
            for (int x = 0; x < width; x++) {
                due.pixel(what, reel, x, y, java.nio.ByteBuffer.wrap(rows).getInt(at));
                at += 4;
            }
        }
    }

    private static void dot(String what, byte[] packed) {
        puts(what, packed, 1, 1, DOT);
    }

    private static void fault(String what, byte[] packed) {
        due.is(what, answer(packed, 1, 1, new FrameReel()), -5);
    }

    /** Packed bytes without a fault whose rows are not the picture's. */
    private static void onlyRowsAreWrong(String what, byte[] packed) {
        due.is(what, answer(packed, 1, 1, new FrameReel()), -6);
    }

    private static void firstTwoBytes() {
        byte[] packed = new BitRow().plain(true, DOT).end(DOT);
        for (int k = 0; k < 256; k++) {
            packed[1] = (byte) k;
            boolean fits = (120 * 256 + k) % 31 == 0 && (k & 32) == 0;
            due.is("120 and " + k, answer(packed, 1, 1, new FrameReel()), fits ? 1 : -5);
        }
        for (int k = 0; k < 256; k++) {
            packed[0] = (byte) k;
            packed[1] = (byte) (31 - k * 256 % 31);
            due.is("first " + k, answer(packed, 1, 1, new FrameReel()), k == 120 ? 1 : -5);
        }
        fault("nothing", new byte[0]);
        fault("a byte", new byte[] {120});
        fault("two bytes", new byte[] {120, 1});
    }

    private static void plainBlocks() {
        dot("plain", new BitRow().plain(true, DOT).end(DOT));
        byte[] packed = new BitRow().plain(true, DOT).end(DOT);
        for (int k = 3; k < 7; k++) {
            for (int bit = 0; bit < 8; bit++) {
                byte[] wrong = packed.clone();
                wrong[k] ^= (byte) (1 << bit);
                fault("a length that is not its turned one", wrong);
            }
        }
        fault("turned wrong, without data", new BitRow().plain(false, DOT).block(true, 0).toByte()
            .number(0, 16).number(0, 16).end(DOT));
        fault("no data but the sum", new BitRow().plain(false, DOT).block(true, 0).toByte()
            .number(100, 16).number(~100, 16).end(DOT));
        fault("a plain block that is not all there", new BitRow().block(true, 0).toByte()
            .number(30, 16).number(~30, 16).fixed(DOT).end(DOT));
        fault("kind 3", new BitRow().block(true, 3).end(new byte[0]));
        fault("kind 3 behind another", new BitRow().plain(false, DOT).block(true, 3).end(DOT));
        fault("no last block", new BitRow().plain(false, DOT).end(DOT));
    }

    private static void severalBlocks() {
        dot("plain ones", new BitRow().plain(false).plain(false, DOT[0], DOT[1])
            .plain(false, DOT[2], DOT[3], DOT[4]).plain(true).end(DOT));
        dot("a fixed one between", new BitRow().plain(false, DOT[0]).block(false, 1)
            .fixed(DOT[1], DOT[2]).fixed(256).plain(true, DOT[3], DOT[4]).end(DOT));
        BitRow row = new BitRow();
        for (int k = 0; k < 700; k++) {
            row.block(false, 1).fixed(256);
        }
        dot("many empty ones", row.block(true, 1).fixed(DOT).fixed(256).end(DOT));
        byte[] zeros = new byte[5];
        puts("a match into the block before", new BitRow().plain(false, zeros[0]).block(true, 1)
            .match(258, 0, 0, 0, 0, 0).fixed(256).end(zeros), 1, 1, zeros);
    }

    private static void fixedSymbols() {
        byte[] rows = new byte[8 * 33];
        for (int k = 0; k < rows.length; k++) {
            rows[k] = (byte) (k % 33 == 0 ? 0 : k - k / 33);
        }
        puts("all bytes", new BitRow().block(true, 1).fixed(rows).fixed(256).end(rows), 8, 8,
            rows);
        fault("no end", new BitRow().block(true, 1).fixed(DOT).end(DOT));
    }

    private static final int[] LENGTHS = {3, 4, 5, 6, 7, 8, 9, 10, 11, 13, 15, 17, 19, 23, 27, 31,
        35, 43, 51, 59, 67, 83, 99, 115, 131, 163, 195, 227, 258};
    private static final int[] LENGTH_BITS = {0, 0, 0, 0, 0, 0, 0, 0, 1, 1, 1, 1, 2, 2, 2, 2,
        3, 3, 3, 3, 4, 4, 4, 4, 5, 5, 5, 5, 0};
    private static final int[] FAR = {1, 2, 3, 4, 5, 7, 9, 13, 17, 25, 33, 49, 65, 97, 129, 193,
        257, 385, 513, 769};

    /** Each symbol of lengths and of distances, with no and with all of its bits more. */
    private static void fixedMatches() {
        Random random = new Random(5);
        for (int k = 0; k < LENGTHS.length; k++) {
            int bits = LENGTH_BITS[k];
            for (int more : new int[] {0, (1 << bits) - 1}) {
                match(random, k, more, bits, 12, 5, 5);
            }
        }
        for (int k = 0; k < FAR.length; k++) {
            int bits = k < 4 ? 0 : k / 2 - 1;
            match(random, 4, 0, 0, k, 0, bits);
            if (FAR[k] + (1 << bits) - 1 < 780) {
                match(random, 4, 0, 0, k, (1 << bits) - 1, bits);
            }
        }
        for (int more = 0; more <= 13; more++) {
            farthest(random, more);
        }
    }

    /** The last three bytes of 16 x 16 from as far back as there can be something. */
    private static void farthest(Random random, int more) {
        byte[] rows = new byte[16 * 65];
        for (int k = 0; k < rows.length; k++) {
            rows[k] = (byte) (k < 1037 ? random.nextInt(5) : k - 1025 - more < 0 ? 0
                : rows[k - 1025 - more]);
        }
        byte[] packed = new BitRow().plain(false, Arrays.copyOf(rows, 1037)).block(true, 1)
            .match(257, 0, 0, 20, more, 9).fixed(256).end(rows);
        due.is("distance " + (1025 + more), answer(packed, 16, 16, new FrameReel()),
            more <= 12 ? 1 : -5);
    }

    /** Bytes without a pattern, the match, and plain bytes up to the end of 16 x 16. */
    private static void match(Random random, int kind, int more, int bits, int far, int farMore,
            int farBits) {
        byte[] rows = new byte[16 * 65];
        for (int k = 0; k < rows.length; k++) {
            // Any of these may be a filter, so the sum alone tells whether all came right.
            rows[k] = (byte) random.nextInt(5);
        }
        int start = 779;
        int length = LENGTHS[kind] + more;
        int distance = FAR[far] + farMore;
        for (int k = 0; k < length; k++) {
            rows[start + k] = rows[start + k - distance];
        }
        BitRow row = new BitRow().block(false, 1).fixed(Arrays.copyOf(rows, start))
            .match(257 + kind, more, bits, far, farMore, farBits).fixed(256)
            .plain(true, Arrays.copyOfRange(rows, start + length, rows.length));
        due.is("length " + length + ", distance " + distance,
            answer(row.end(rows), 16, 16, new FrameReel()), 1);
    }

    private static void noSuchSymbols() {
        for (int symbol : new int[] {286, 287}) {
            fault("symbol " + symbol, new BitRow().block(true, 1).fixed(DOT)
                .match(symbol, 0, 0, 0, 0, 0).fixed(256).end(DOT));
            fault("symbol " + symbol + " alone", new BitRow().block(true, 1).fixed(DOT)
                .fixed(symbol).fixed(256).end(DOT));
            fault("symbol " + symbol + " at last", new BitRow().block(true, 1).fixed(DOT)
                .fixed(symbol).end(DOT));
        }
        for (int far : new int[] {30, 31}) {
            fault("distance " + far, new BitRow().block(true, 1).fixed(DOT)
                .match(257, 0, 0, far, 0, 13).fixed(256).end(DOT));
            fault("distance " + far + " without more", new BitRow().block(true, 1).fixed(DOT)
                .match(257, 0, 0, far, 0, 0).fixed(256).end(DOT));
        }
    }

    private static void beyondWhatWasPutOut() {
        byte[] zeros = new byte[5];
        fault("a match at first", new BitRow().block(true, 1).match(259, 0, 0, 0, 0, 0).fixed(256)
            .end(zeros));
        puts("as far as can be", new BitRow().block(true, 1).fixed(0).fixed(0)
            .match(257, 0, 0, 1, 0, 0).fixed(256).end(zeros), 1, 1, zeros);
        fault("one too far", new BitRow().block(true, 1).fixed(0).fixed(0)
            .match(257, 0, 0, 2, 0, 0).fixed(256).end(zeros));
        fault("one too far, put out as 255", new BitRow().block(true, 1).fixed(0).fixed(0)
            .match(257, 0, 0, 2, 0, 0).fixed(256).end(new byte[] {0, 0, -1, 0, 0}));
        fault("too far, and put out nothing", new BitRow().block(true, 1).fixed(DOT)
            .match(257, 0, 0, 4, 1, 1).fixed(256).end(DOT));
        fault("too far at last", new BitRow().block(true, 1).fixed(DOT)
            .match(257, 0, 0, 4, 1, 1).end(DOT));
        fault("much too far", new BitRow().block(true, 1).fixed(0).fixed(0)
            .match(257, 0, 0, 29, 8191, 13).fixed(256).end(zeros));
    }

    private static void room() {
        byte[] most = new byte[1100];
        byte[] more = new byte[1101];
        onlyRowsAreWrong("1100 plain", new BitRow().plain(true, most).end(most));
        fault("1101 plain", new BitRow().plain(true, more).end(more));
        onlyRowsAreWrong("1100 fixed",
            new BitRow().block(true, 1).fixed(most).fixed(256).end(most));
        fault("1101 fixed", new BitRow().block(true, 1).fixed(more).fixed(256).end(more));
        byte[] some = new byte[1100 - 258];
        onlyRowsAreWrong("1100 with a match", new BitRow().block(true, 1).fixed(some)
            .match(285, 0, 0, 0, 0, 0).fixed(256).end(most));
        fault("1101 with a match", new BitRow().block(true, 1).fixed(some).fixed(0)
            .match(285, 0, 0, 0, 0, 0).fixed(256).end(more));
        onlyRowsAreWrong("empty blocks behind 1100", new BitRow().plain(false, most)
            .plain(false).block(true, 1).fixed(256).end(most));
        fault("one more behind 1100", new BitRow().plain(false, most).plain(true, more[0])
            .end(more));
        onlyRowsAreWrong("nothing put out", new BitRow().plain(true).end(new byte[0]));
    }

    private static void sumAndEnd() {
        byte[] packed = new BitRow().block(true, 1).fixed(DOT).fixed(256).end(DOT);
        dot("fixed", packed);
        for (int k = packed.length - 4; k < packed.length; k++) {
            byte[] wrong = packed.clone();
            wrong[k] ^= 1;
            fault("another sum", wrong);
        }
        fault("a byte behind it", Arrays.copyOf(packed, packed.length + 1));
        byte[] full = new byte[1040];
        Arrays.fill(full, (byte) 255);
        for (int k = 0; k < full.length; k += 65) {
            full[k] = 0;
        }
        puts("sums beyond 65521", Made.packed(full, 0, Deflater.DEFAULT_STRATEGY), 16, 16, full);
    }

    private static void cutAnywhere() {
        int[] symbols = new int[257];
        Arrays.fill(symbols, 0, 255, 8);
        symbols[255] = 9;
        symbols[256] = 9;
        BitRow row = new BitRow().plain(false, DOT[0]).block(false, 1).fixed(DOT[1]).fixed(256)
            .block(true, 2).told(symbols, new int[] {0});
        for (int k = 2; k < 5; k++) {
            row.coded(symbols, DOT[k]);
        }
        byte[] packed = row.coded(symbols, 256).end(DOT);
        dot("three sorts", packed);
        for (int k = 0; k < packed.length; k++) {
            fault("cut at " + k, Arrays.copyOf(packed, k));
        }
    }

    private static BitRow told(int[] symbols, int... distances) {
        return new BitRow().block(true, 2).told(symbols, distances);
    }

    private static BitRow coded(BitRow row, int[] lengths, int... symbols) {
        return row.coded(lengths, symbols);
    }

    private static void toldPlainly() {
        int[] s = BitRow.fewSymbols();
        byte[] twos = {0, 2, 2, 2, 2};
        dot("told bytes", coded(told(s, 0), s, 0, 1, 2, 3, 4, 256).end(DOT));
        puts("a told match", coded(told(s, 1, 1), s, 0, 2, 257).code(0, 1).coded(s, 256).end(twos),
            1, 1, twos);
        int[] only = new int[257];
        only[256] = 1;
        only[0] = 1;
        puts("two codes of one bit", coded(told(only, 0), only, 0, 0, 0, 0, 0, 256)
            .end(new byte[5]), 1, 1, new byte[5]);
    }

    private static void toldCounts() {
        for (int n = 257; n <= 288; n++) {
            int[] s = Arrays.copyOf(BitRow.fewSymbols(), Math.max(n, 258));
            int want = n <= 286 ? 1 : -5;
            if (n > 257) {
                due.is(n + " symbols", answer(coded(told(s, 0), s, 0, 1, 2, 3, 4, 256).end(DOT),
                    1, 1, new FrameReel()), want);
            }
        }
        for (int n = 1; n <= 32; n++) {
            int[] s = BitRow.fewSymbols();
            due.is(n + " distances", answer(coded(told(s, new int[n]), s, 0, 1, 2, 3, 4, 256)
                .end(DOT), 1, 1, new FrameReel()), n <= 30 ? 1 : -5);
        }
        for (int n = 4; n < 19; n++) {
            tellerCount(n);
        }
        // Lengths of tellers that are not told are 0, whatever a block before told.
        int[] s = BitRow.fewSymbols();
        BitRow row = new BitRow().block(false, 2).told(s, new int[] {0});
        dot("few tellers behind many", coded(eightOrNone(coded(row, s, 0, 1, 256).block(true, 2),
            5), EIGHTS, 2, 3, 4, 256).end(DOT));
    }

    // 256 codes of eight bits: 0 .. 254 and the end.
    private static final int[] EIGHTS = eights();

    private static int[] eights() {
        int[] lengths = new int[257];
        Arrays.fill(lengths, 8);
        lengths[255] = 0;
        return lengths;
    }

    /** The head of a told block with n lengths of tellers, those of 0 and 8 being 1. */
    private static BitRow eightOrNone(BitRow row, int n) {
        row.number(0, 5).number(0, 5).number(n - 4, 4);
        for (int k = 0; k < n; k++) {
            int teller = BitRow.TELLER_ORDER[k];
            row.number(teller == 0 || teller == 8 ? 1 : 0, 3);
        }
        for (int length : EIGHTS) {
            row.code(length == 8 ? 1 : 0, 1);
        }
        return row.code(0, 1);
    }

    private static void tellerCount(int n) {
        byte[] packed = coded(eightOrNone(new BitRow().block(true, 2), n), EIGHTS,
            0, 1, 2, 3, 4, 256).end(DOT);
        if (n == 4) {
            fault("4 tellers, 0 alone having a code", packed);
        } else {
            dot(n + " tellers", packed);
        }
    }

    private static final int[] REPEATING = tellerLengths(0, 3, 1, 3, 2, 3, 3, 3, 8, 3, 16, 3,
        17, 3, 18, 3);

    private static int[] tellerLengths(int... pairs) {
        int[] lengths = new int[19];
        for (int k = 0; k < pairs.length; k += 2) {
            lengths[pairs[k]] = pairs[k + 1];
        }
        return lengths;
    }

    private static BitRow repeating(int symbols, int distances) {
        return new BitRow().block(true, 2).tellers(symbols, distances, REPEATING);
    }

    private static BitRow teller(BitRow row, int teller) {
        return row.coded(REPEATING, teller);
    }

    private static void toldRepeats() {
        int[] s = BitRow.fewSymbols();
        // 0 .. 4: 3, then 251 times 0, 256: 3, 257: 2, then one distance 0.
        BitRow row = teller(teller(repeating(258, 1), 3), 16).number(1, 2);
        teller(teller(row, 18).number(127, 7), 18).number(251 - 138 - 11, 7);
        teller(teller(teller(row, 3), 2), 0);
        dot("16 and 18", coded(row, s, 0, 1, 2, 3, 4, 256).end(DOT));

        // The 2 of symbol 257 goes on as the lengths of four distances.
        row = teller(teller(repeating(258, 4), 3), 16).number(1, 2);
        teller(teller(row, 18).number(127, 7), 18).number(251 - 138 - 11 - 3, 7);
        teller(row, 17).number(0, 3);
        teller(teller(teller(row, 3), 2), 16).number(1, 2);
        byte[] twos = {0, 2, 2, 2, 2};
        coded(row, s, 0, 2, 257).code(0, 2).coded(s, 256);
        puts("16 from symbols to distances", row.end(twos), 1, 1, twos);

        row = teller(repeating(258, 1), 16).number(1, 2);
        fault("16 at first", coded(row, s, 0, 1, 2, 3, 4, 256).end(DOT));
        for (int last : new int[] {16, 17, 18}) {
            row = teller(teller(repeating(258, 4), 3), 16).number(1, 2);
            teller(teller(row, 18).number(127, 7), 18).number(251 - 138 - 11, 7);
            teller(teller(row, 3), 2);
            teller(row, last).number(last == 16 ? 2 : last == 17 ? 2 : 0, last == 18 ? 7
                : last - 14);
            fault(last + " beyond the end", coded(row, s, 0, 1, 2, 3, 4, 256).end(DOT));
        }
        // 17 with 3 and with 10, up to the very end.
        row = teller(teller(repeating(258, 13), 3), 16).number(1, 2);
        teller(teller(row, 18).number(127, 7), 18).number(251 - 138 - 11, 7);
        teller(teller(row, 3), 2);
        teller(teller(row, 17).number(7, 3), 17).number(0, 3);
        dot("17 up to the end", coded(row, s, 0, 1, 2, 3, 4, 256).end(DOT));
    }

    private static void toldTellers() {
        int[] s = BitRow.fewSymbols();
        int[][] wrong = {
            tellerLengths(0, 1, 1, 1, 2, 1), tellerLengths(0, 2, 2, 2, 3, 2), tellerLengths(0, 1),
            tellerLengths(), tellerLengths(0, 1, 2, 2, 3, 3)};
        for (int[] lengths : wrong) {
            BitRow row = new BitRow().block(true, 2).tellers(258, 1, lengths);
            for (int k = 0; k < 600; k++) {
                row.number(0, 1);
            }
            fault("tellers " + Arrays.toString(lengths), row.end(DOT));
        }
        int[] lengths = tellerLengths(0, 1, 2, 2, 3, 2);
        BitRow row = new BitRow().block(true, 2).tellers(258, 1, lengths);
        for (int length : s) {
            row.coded(lengths, length);
        }
        dot("three tellers", coded(row.coded(lengths, 0), s, 0, 1, 2, 3, 4, 256).end(DOT));
    }

    private static void toldSymbols() {
        int[] s = BitRow.fewSymbols();
        s[5] = 3;
        fault("more symbols than can be", coded(told(s, 0), s, 0, 1, 2, 3, 4, 256).end(DOT));
        s = BitRow.fewSymbols();
        s[257] = 3;
        fault("fewer symbols", coded(told(s, 0), s, 0, 1, 2, 3, 4, 256).end(DOT));
        s = BitRow.fewSymbols();
        s[5] = 3;
        s[256] = 0;
        fault("no end has a code", coded(told(s, 0), s, 0, 1, 2, 3, 4).end(DOT));
        s = new int[257];
        s[256] = 1;
        fault("the end alone", new BitRow().plain(false, DOT).block(true, 2)
            .told(s, new int[1]).code(0, 1).end(DOT));
        fault("nothing has a code", new BitRow().plain(false, DOT).block(true, 2)
            .told(new int[257], new int[1]).code(0, 1).end(DOT));
    }

    private static void toldDistances() {
        int[] s = BitRow.fewSymbols();
        int[][] right = {{0}, {1}, {0, 1}, {1, 1}, {0, 0, 0}, {1, 2, 2}, {2, 2, 2, 2}};
        int[][] wrong = {{2}, {15}, {1, 2}, {2, 2}, {2, 2, 2}, {1, 1, 1}, {1, 2, 2, 2}, {1, 15},
            {1, 1, 15}};
        for (int[] d : right) {
            dot("distances " + Arrays.toString(d),
                coded(told(s, d), s, 0, 1, 2, 3, 4, 256).end(DOT));
        }
        for (int[] d : wrong) {
            fault("distances " + Arrays.toString(d),
                coded(told(s, d), s, 0, 1, 2, 3, 4, 256).end(DOT));
        }
        byte[] twos = {0, 2, 2, 2, 2};
        puts("the one distance", coded(told(s, 1), s, 0, 2, 257).code(0, 1).coded(s, 256)
            .end(twos), 1, 1, twos);
        fault("a bit that is no distance", coded(told(s, 1), s, 0, 2, 257).code(1, 1)
            .coded(s, 256).number(0, 24).end(twos));
        for (int bit = 0; bit < 2; bit++) {
            fault("a match without distances", coded(told(s, 0), s, 0, 2, 257).code(bit, 1)
                .coded(s, 256).number(0, 24).end(twos));
        }
        byte[] pairs = {0, 2, 0, 2, 0};
        puts("the one distance is the second", coded(told(s, 0, 1), s, 0, 2, 257).code(0, 1)
            .coded(s, 256).end(pairs), 1, 1, pairs);
    }

    private static void longestCodes() {
        int[] s = new int[257];
        for (int k = 0; k < 15; k++) {
            s[k] = k + 1;
        }
        s[256] = 15;
        byte[] rows = new byte[] {0, 13, 14, 0, 7};
        puts("codes of 15 bits", coded(told(s, 0), s, 0, 13, 14, 0, 7, 256).end(rows), 1, 1, rows);
    }

    private static void asTheLibraryPacks() {
        Random random = new Random(11);
        int[] strategies = {Deflater.DEFAULT_STRATEGY, Deflater.FILTERED, Deflater.HUFFMAN_ONLY};
        for (int turn = 0; turn < 300; turn++) {
            int width = 1 + random.nextInt(16);
            int height = 1 + random.nextInt(16);
            int colours = 1 + random.nextInt(turn % 3 == 0 ? 256 : 6);
            byte[] rows = new byte[height * (1 + 4 * width)];
            for (int k = 0; k < rows.length; k++) {
                rows[k] = (byte) (k % (1 + 4 * width) == 0 ? 0 : 17 * random.nextInt(colours));
            }
            byte[] packed = Made.packed(rows, random.nextInt(10), strategies[random.nextInt(3)]);
            puts("as the library packs, " + turn, packed, width, height, rows);
        }
    }
}
