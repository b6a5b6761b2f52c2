import java.util.Arrays;
import java.util.Random;

/** Terms: the edges of packed bytes, blocks, codes and matches, sentence by sentence. */
final class PackedEdgeTest {
    private static final Due due = new Due("PackedEdgeTest");
    private static final byte[] DOT = {0, 1, 2, 3, 4};
    private static final byte[] NOTHING = {};
    private static final int MOST = 1100;
    private static final int[] LENGTHS = {3, 4, 5, 6, 7, 8, 9, 10, 11, 13, 15, 17, 19, 23, 27, 31,
        35, 43, 51, 59, 67, 83, 99, 115, 131, 163, 195, 227, 258};

    public static void main(String[] args) {
        firstTwoBytes();
        sum();
        nothingBehind();
        bitOrder();
        lastBlock();
        leftOutBits();
        plainLength();
        kindThree();
        codeOrder();
        moreOrFewer();
        moreBehindRightOnes();
        wrongCountsBehindRightOnes();
        distancesAlone();
        noCode();
        bytesAndEnd();
        lengths();
        distances();
        oneByOne();
        noSuchSymbols();
        tooFar();
        tooMuch();
        fixedLengths();
        toldSymbols();
        toldDistances();
        toldTellers();
        repeats();
        beyondTheEnd();
        endHasCode();
        cutAnywhere();
        due.end();
    }

    /** The answer of a file of one pixel with these packed bytes. */
    private static int answer(byte[] packed) {
        FrameReel reel = new FrameReel();
        Made.typeIn(reel, Made.beforeDot().data(packed).end().bytes());
        return reel.read();
    }

    /** They have no fault; what they put out is told by its sum, and may be no picture. */
    private static void fine(String what, byte[] packed) {
        int answer = answer(packed);
        due.is(what, answer == -6 ? 1 : answer, 1);
    }

    private static void fault(String what, byte[] packed) {
        due.is(what, answer(packed), -5);
    }

    private static void fineIf(boolean isFine, String what, byte[] packed) {
        if (isFine) {
            fine(what, packed);
        } else {
            fault(what, packed);
        }
    }

    private static byte[] withSum(byte[] packed, int sum) {
        return Made.joined(Arrays.copyOf(packed, packed.length - 4), Made.numbers(sum));
    }

    private static void firstTwoBytes() {
        due.sentence("PACKED BYTES: 120 and a byte with which both as one number are divisible by"
            + " 31, bit 5 of it 0");
        byte[] packed = new BitRow().plain(true, DOT).end(DOT);
        for (int first = 0; first < 256; first++) {
            for (int second = first == 120 ? 0 : 30 - (first * 256 + 30) % 31; second < 256;
                    second += first == 120 ? 1 : 31) {
                packed[0] = (byte) first;
                packed[1] = (byte) second;
                boolean fits = first == 120 && (30720 + second) % 31 == 0 && (second & 32) == 0;
                fineIf(fits, first + " " + second, packed);
            }
        }
        for (int n = 0; n <= 2; n++) {
            fault("nothing more than " + n, Arrays.copyOf(new byte[] {120, 1}, n));
        }
    }

    /** A plain block of so many bytes: the first one, zeros, and these at last. */
    private static byte[] summed(int n, int first, int... last) {
        byte[] raw = new byte[n];
        raw[0] = (byte) first;
        for (int k = 0; k < last.length; k++) {
            raw[n - last.length + k] = (byte) last[k];
        }
        return raw;
    }

    private static void sum() {
        due.sentence("a number: s2 times 65536 and s1, where s1 is 1, s2 is 0 and for each byte"
            + " that is put out .. both modulo 65521");
        fine("no byte", withSum(new BitRow().plain(true).end(NOTHING), 1));
        for (int wrong : new int[] {0, 65536, 65537}) {
            fault("no byte", withSum(new BitRow().plain(true).end(NOTHING), wrong));
        }
        // s2 is 255 * 256 and the last one: 65520, 65521, 65522.
        for (int last = 240; last <= 242; last++) {
            byte[] packed = new BitRow().plain(true, summed(256, 254, last)).end(NOTHING);
            int s1 = 1 + 254 + last;
            fine("s2 about 65521", withSum(packed, (255 * 256 + last) % 65521 << 16 | s1));
            fault("s2 about 65521", withSum(packed, (255 * 256 + last + 1) % 65521 << 16 | s1));
        }
        // s1 is 1 and 256 times 255 and the last one: 65520, 65521, 65522.
        for (int last = 239; last <= 241; last++) {
            byte[] raw = new byte[257];
            Arrays.fill(raw, (byte) 255);
            raw[256] = (byte) last;
            byte[] packed = new BitRow().plain(true, raw).end(raw);
            fine("s1 about 65521", packed);
            int s2 = Made.adler(raw) >>> 16;
            fineIf(last < 240, "s1 not cut", withSum(packed, s2 << 16 | 65281 + last));
        }
        byte[] most = new byte[MOST];
        Arrays.fill(most, (byte) 255);
        fine("the greatest", new BitRow().plain(true, most).end(most));
        byte[] packed = new BitRow().plain(true, DOT).end(DOT);
        for (int bit = 0; bit < 32; bit++) {
            fault("bit " + bit, withSum(packed, Made.adler(DOT) ^ 1 << bit));
        }
    }

    private static void nothingBehind() {
        due.sentence("nothing behind that");
        byte[] packed = new BitRow().block(true, 1).fixed(DOT).fixed(256).end(DOT);
        fine("nothing", packed);
        fault("a byte", Arrays.copyOf(packed, packed.length + 1));
        fault("the sum again", Made.joined(packed, Made.numbers(Made.adler(DOT))));
        fault("a byte before the sum", Made.joined(Arrays.copyOf(packed, packed.length - 4),
            new byte[1], Made.numbers(Made.adler(DOT))));
        fault("all again", Made.joined(packed, packed));
        for (int n = 1; n <= 4; n++) {
            fault(n + " bytes too few", Arrays.copyOf(packed, packed.length - n));
        }
    }

    private static void bitOrder() {
        due.sentence("BITS of blocks come from the lowest of each byte on; numbers of bits have"
            + " their lowest bit first, but codes their highest.");
        // As zlib packs 0 1 2 3 4.
        fine("by hand", Made.small(120, 218, 99, 96, 100, 98, 102, 1, 0, 0, 25, 0, 11));
        // As zlib packs five zeros: one, and a match of four.
        fine("with a match", Made.small(120, 218, 99, 96, 0, 2, 0, 0, 5, 0, 1));
        // Length 11 and one bit more, so 12; then distance 5 and one bit more, so 6.
        byte[] raw = new byte[18];
        for (int k = 0; k < 18; k++) {
            raw[k] = (byte) (k % 6);
        }
        fine("more bits", new BitRow().block(true, 1).fixed(Arrays.copyOf(raw, 6))
            .match(265, 1, 1, 4, 1, 1).fixed(256).end(raw));
    }

    private static void lastBlock() {
        due.sentence("A BLOCK: a bit that is 1 for the last one");
        fine("one", new BitRow().plain(true, DOT).end(DOT));
        fault("no last one", new BitRow().plain(false, DOT).end(DOT));
        fault("none at all", new BitRow().end(NOTHING));
        fault("one behind the last", new BitRow().plain(true, DOT).plain(true).end(DOT));
        BitRow row = new BitRow();
        for (int k = 0; k < MOST; k++) {
            row.plain(false, (byte) 0);
        }
        fine("1100 of one byte and an empty one", row.plain(true).end(new byte[MOST]));
        row = new BitRow();
        for (int k = 0; k < 5000; k++) {
            row.block(false, 1).fixed(256);
        }
        fine("5000 empty ones", row.plain(true, DOT).end(DOT));
    }

    private static void leftOutBits() {
        due.sentence("0 PLAIN: the bits up to the end of a byte are left out");
        for (int shift = 0; shift < 8; shift++) {
            for (int filling = 0; filling < 2; filling++) {
                byte[] raw = new byte[shift];
                Arrays.fill(raw, (byte) 200);
                // Bytes from 144 on have nine bits, so each moves the next block by one.
                fine("moved by " + shift + ", filled with " + filling, new BitRow()
                    .block(false, 1).fixed(raw).fixed(256).plainWith(filling, true, DOT)
                    .end(Made.joined(raw, DOT)));
            }
        }
    }

    private static void plainLength() {
        due.sentence("a number of 16 bits and the same with all bits turned; so many bytes");
        for (int n : new int[] {0, 1, 2, 255, 256, 257, 1023, 1024, MOST}) {
            fine(n + " bytes", new BitRow().plain(true, new byte[n]).end(new byte[n]));
        }
        for (int bit = 0; bit < 32; bit++) {
            byte[] wrong = new BitRow().plain(false).plain(true, DOT).end(DOT);
            wrong[3 + bit / 8] ^= (byte) (1 << bit % 8);
            fault("bit " + bit + " of an empty one", wrong);
            wrong = new BitRow().plain(true, DOT).end(DOT);
            wrong[3 + bit / 8] ^= (byte) (1 << bit % 8);
            fault("bit " + bit, wrong);
        }
        fault("the same, not turned", new BitRow().block(true, 0).toByte().number(0, 16)
            .number(0, 16).end(NOTHING));
        fault("65535 that are not there", new BitRow().plain(false, DOT).block(true, 0).toByte()
            .number(65535, 16).number(0, 16).end(DOT));
        // The sum's four bytes are there, but no more.
        fine("all there", new BitRow().plain(true, DOT).end(DOT));
        for (int more = 1; more <= 5; more++) {
            fault(more + " too few", new BitRow().block(true, 0).toByte().number(5 + more, 16)
                .number(~(5 + more), 16).number(0x03020100, 32).number(4, 8).end(DOT));
        }
    }

    private static void kindThree() {
        due.sentence("3 is a fault.");
        for (int last = 0; last < 2; last++) {
            fault("3 at first", new BitRow().block(last == 1, 3).end(NOTHING));
            fault("3 behind another", new BitRow().plain(false, DOT).block(last == 1, 3).end(DOT));
            fault("3 and then a fixed one's", new BitRow().block(last == 1, 3).fixed(DOT)
                .fixed(256).end(DOT));
        }
    }

    /** Lengths of a full set of codes for n symbols, those of the others 0. */
    private static int[] fullSet(Random random, int n, int size) {
        int[] some = new int[n];
        int had = 1;
        while (had < n) {
            int k = random.nextInt(had);
            if (some[k] < 15) {
                some[k]++;
                some[had] = some[k];
                had++;
            }
        }
        int[] lengths = new int[size];
        for (int k = 0; k < n; k++) {
            int at = k == 0 ? size - 1 : random.nextInt(size);
            while (lengths[at] != 0) {
                at = random.nextInt(size);
            }
            lengths[at] = some[k];
        }
        return lengths;
    }

    private static void codeOrder() {
        due.sentence("of symbols with the same length the lesser one has the lesser code .. the"
            + " first one of length l is twice the sum of the first one of length l - 1 and how"
            + " many have that length");
        Random random = new Random(8);
        for (int turn = 0; turn < 100; turn++) {
            int[] s = fullSet(random, 2 + random.nextInt(255), 257);
            byte[] raw = new byte[40];
            BitRow row = told(s, 0);
            for (int k = 0; k < raw.length; k++) {
                int symbol = random.nextInt(256);
                while (s[symbol] == 0) {
                    symbol = random.nextInt(256);
                }
                raw[k] = (byte) symbol;
                row.coded(s, symbol);
            }
            fine("a full set", row.coded(s, 256).end(raw));
        }
        due.sentence("CODES of symbols by their lengths (1 to 15; 0: none)");
        int[] s = new int[257];
        for (int k = 0; k < 15; k++) {
            s[k] = k + 1;
        }
        s[256] = 15;
        byte[] raw = new byte[15];
        BitRow row = told(s, 0);
        for (int k = 0; k < 15; k++) {
            raw[k] = (byte) k;
            row.coded(s, k);
        }
        fine("each length there is", row.coded(s, 256).end(raw));
        s[15] = 15;
        fault("one of 15 too many", told(s, 0).coded(s, 0, 256).end(new byte[1]));
        s[15] = 0;
        s[14] = 0;
        fault("one of 15 too few", told(s, 0).coded(s, 0, 256).end(new byte[1]));
    }

    private static BitRow told(int[] symbols, int... distances) {
        return new BitRow().block(true, 2).told(symbols, distances);
    }

    private static boolean isFull(int[] lengths) {
        int sum = 0;
        for (int length : lengths) {
            sum += length == 0 ? 0 : 1 << (15 - length);
        }
        return sum == 1 << 15;
    }

    private static void moreOrFewer() {
        due.sentence("It is a fault if there are more codes than there can be, or fewer");
        int[] few = BitRow.fewSymbols();
        for (int at = 0; at < 258; at++) {
            for (int length : new int[] {0, 1, 2, 3, 4, 15}) {
                int[] s = few.clone();
                s[at] = length;
                if (s[256] != 0 && (at < 8 || at > 250)) {
                    fineIf(isFull(s), "symbol " + at + " of " + length,
                        told(s, 0).coded(s, 256).end(NOTHING));
                }
            }
        }
        Random random = new Random(9);
        for (int turn = 0; turn < 400; turn++) {
            int[] d = new int[1 + random.nextInt(6)];
            int used = 0;
            int sum = 0;
            for (int k = 0; k < d.length; k++) {
                d[k] = random.nextInt(4);
                used += d[k] == 0 ? 0 : 1;
                sum += d[k];
            }
            fineIf(isFull(d) || used == 0 || used == 1 && sum == 1, "distances "
                + Arrays.toString(d), told(few, d).coded(few, 256).end(NOTHING));
        }
        int[][] tellers = {{0, 1}, {0, 1, 3, 2}, {0, 2, 2, 2, 3, 2}, {0, 1, 2, 1, 3, 1}, {},
            {0, 1, 2, 2, 3, 3}, {3, 1}, {0, 1, 2, 2, 3, 2, 18, 7}};
        for (int[] pairs : tellers) {
            BitRow row = new BitRow().block(true, 2).tellers(258, 1, tellerLengths(pairs));
            fault("tellers " + Arrays.toString(pairs), row.number(0, 16).number(0, 16).end(DOT));
        }
    }

    /** The codes of the block before would do for what comes, if nobody looked at the new ones. */
    private static void moreBehindRightOnes() {
        due.sentence("It is a fault if there are more codes than there can be");
        int[] few = BitRow.fewSymbols();
        int[] pair = {1, 1};
        fine("as many as before", secondTold(few, pair, few, pair));
        for (int length = 3; length <= 15; length++) {
            int[] more = Arrays.copyOf(few, 259);
            more[258] = length;
            fault("a symbol more, of " + length, secondTold(few, pair, more, pair));
            fault("a distance more, of " + length,
                secondTold(few, pair, few, new int[] {1, 1, length}));
        }
        for (int teller = 15; teller <= 18; teller++) {
            for (int length = 4; length <= 7; length++) {
                int[] tellers = new int[19];
                Arrays.fill(tellers, 0, 16, 4);
                tellers[teller] = length;
                BitRow row = new BitRow().block(false, 2).told(few, new int[1])
                    .coded(few, 0, 256).block(true, 2).tellers(258, 1, tellers);
                for (int told : few) {
                    row.code(told, 4);
                }
                row.code(0, 4).coded(few, 1, 2, 3, 4, 256);
                fineIf(isFull(tellers), "teller " + teller + " of " + length, row.end(DOT));
            }
        }
    }

    /** Behind wrong counts the tellers of the block before would do, too. */
    private static void wrongCountsBehindRightOnes() {
        due.sentence("how many symbols (286 at most) .. how many distances (30 at most)");
        int[] few = BitRow.fewSymbols();
        for (int[] counts : new int[][] {{287, 1}, {288, 1}, {258, 31}, {258, 32}}) {
            BitRow row = new BitRow().block(false, 2).told(few, new int[1]).coded(few, 0, 256)
                .block(true, 2).number(counts[0] - 257, 5).number(counts[1] - 1, 5).number(15, 4);
            for (int told : Arrays.copyOf(few, counts[0] + counts[1])) {
                row.code(told, 4);
            }
            fault(Arrays.toString(counts), row.coded(few, 1, 2, 3, 4, 256).end(DOT));
        }
    }

    /** The bytes of a dot and a match, in the codes that the first of two told blocks tells. */
    private static byte[] secondTold(int[] s, int[] d, int[] secondS, int[] secondD) {
        return new BitRow().block(false, 2).told(s, d).coded(s, 0, 256)
            .block(true, 2).told(secondS, secondD).coded(s, 1, 257).code(1, 1).coded(s, 256)
            .end(new byte[] {0, 1, 0, 1, 0});
    }

    private static int[] tellerLengths(int... pairs) {
        int[] lengths = new int[19];
        for (int k = 0; k < pairs.length; k += 2) {
            lengths[pairs[k]] = pairs[k + 1];
        }
        return lengths;
    }

    private static void distancesAlone() {
        due.sentence("(but one code of length 1 alone, or none at all, may be for distances");
        int[] s = BitRow.fewSymbols();
        for (int n = 1; n <= 30; n++) {
            fine("none of " + n, told(s, new int[n]).coded(s, 256).end(NOTHING));
            for (int length = 1; length <= 15; length++) {
                int[] d = new int[n];
                d[n - 1] = length;
                fineIf(length == 1, "distance " + n + " alone of " + length,
                    told(s, d).coded(s, 256).end(NOTHING));
            }
        }
        byte[] raw = {1, 1, 1, 1};
        fine("its code is 0", told(s, 1).coded(s, 1, 257).code(0, 1).coded(s, 256).end(raw));
        int[] only = new int[257];
        only[256] = 1;
        fault("no symbol but the end", told(only, 0).code(0, 1).end(NOTHING));
        fault("no symbol at all", told(new int[257], 0).code(0, 1).end(NOTHING));
    }

    private static void noCode() {
        due.sentence("a bit row that is no code is a fault when it is met)");
        int[] s = BitRow.fewSymbols();
        byte[] raw = {1, 1, 1, 1};
        fine("one distance, not met", told(s, 1).coded(s, 1, 1, 1, 1, 256).end(raw));
        fine("no distance, not met", told(s, 0).coded(s, 1, 1, 1, 1, 256).end(raw));
        fault("one distance, its other bit", told(s, 1).coded(s, 1, 257).code(1, 1)
            .coded(s, 256).number(0, 30).end(raw));
        for (int bits : new int[] {0, -1}) {
            fault("no distance, met", told(s, 0).coded(s, 1, 257).number(bits, 20)
                .coded(s, 256).end(raw));
            fault("no distance, met at last", told(s, 0).coded(s, 1, 257).number(bits, 1)
                .end(raw));
        }
    }

    private static void bytesAndEnd() {
        due.sentence("Symbols 0 .. 255 are bytes; 256 ends the block");
        int[] s = new int[257];
        Arrays.fill(s, 9);
        Arrays.fill(s, 0, 255, 8);
        for (int b = 0; b < 256; b++) {
            byte[] raw = {(byte) b};
            fine("byte " + b, told(s, 0).coded(s, b, 256).end(raw));
            fine("byte " + b, new BitRow().block(true, 1).fixed(raw).fixed(256).end(raw));
        }
        fine("the end at once", told(s, 0).coded(s, 256).end(NOTHING));
        fine("the end at once", new BitRow().block(true, 1).fixed(256).end(NOTHING));
        fine("the next block right behind", new BitRow().block(false, 2).told(s, new int[1])
            .coded(s, 7, 256).block(false, 1).fixed(8).fixed(256).block(true, 2)
            .told(s, new int[1]).coded(s, 9, 256).end(new byte[] {7, 8, 9}));
        fault("no end", told(s, 0).coded(s, 7).end(new byte[] {7}));
        fault("no end", new BitRow().block(true, 1).fixed(7).end(new byte[] {7}));
        fault("a byte behind the end", told(s, 0).coded(s, 7, 256, 8).end(new byte[] {7, 8}));
    }

    private static void lengths() {
        due.sentence("257 .. 285 are LENGTHS of a match: with these bases and so many bits more");
        for (int kind = 0; kind < LENGTHS.length; kind++) {
            int bits = kind < 8 || kind == 28 ? 0 : kind / 4 - 1;
            for (int more = 0; more < 1 << bits; more++) {
                byte[] raw = new byte[2 + LENGTHS[kind] + more];
                raw[raw.length - 1] = (byte) 200;
                fine("length " + (raw.length - 2), new BitRow().block(true, 1).fixed(0)
                    .match(257 + kind, more, bits, 0, 0, 0).fixed(200).fixed(256).end(raw));
            }
        }
        fine("258 by 284 too", new BitRow().block(true, 1).fixed(0).match(284, 31, 5, 0, 0, 0)
            .fixed(256).end(new byte[259]));
    }

    private static int distanceBits(int far) {
        return far < 4 ? 0 : far / 2 - 1;
    }

    private static int distanceBase(int far) {
        return far < 4 ? far + 1 : 1 + (2 + far % 2 << far / 2 - 1);
    }

    private static void distances() {
        due.sentence("Behind it a symbol of distances 0 .. 29");
        due.is("the bases by a rule", distanceBase(29), 24577);
        byte[] raw = new byte[MOST];
        new Random(10).nextBytes(raw);
        int before = MOST - 4;
        for (int far = 0; far <= 20; far++) {
            int bits = distanceBits(far);
            for (int more = 0; more < 1 << bits; more++) {
                int distance = distanceBase(far) + more;
                boolean fits = distance <= before;
                for (int k = before; k < MOST - 1; k++) {
                    raw[k] = fits ? raw[k - distance] : 0;
                }
                if (fits || more % 16 == 15 || distance <= MOST) {
                    fineIf(fits, "distance " + distance, new BitRow()
                        .plain(false, Arrays.copyOf(raw, before)).block(true, 1)
                        .match(257, 0, 0, far, more, bits).fixed(raw[MOST - 1] & 255)
                        .fixed(256).end(raw));
                }
            }
        }
    }

    private static void oneByOne() {
        due.sentence("The match's bytes are those put out so many before, one by one.");
        for (int distance = 1; distance <= 4; distance++) {
            byte[] raw = new byte[distance + 258];
            for (int k = 0; k < raw.length; k++) {
                raw[k] = (byte) (k % distance + 1);
            }
            fine("258 from " + distance + " before", new BitRow().block(true, 1)
                .fixed(Arrays.copyOf(raw, distance)).match(285, 0, 0, distance - 1, 0, 0)
                .fixed(256).end(raw));
        }
    }

    private static void noSuchSymbols() {
        due.sentence("Symbols 286, 287, distances 30, 31 .. are faults.");
        for (int symbol : new int[] {286, 287}) {
            fault("symbol " + symbol, new BitRow().block(true, 1).fixed(DOT).fixed(symbol)
                .fixed(256).end(DOT));
            fault("symbol " + symbol + " at last", new BitRow().block(true, 1).fixed(DOT)
                .fixed(symbol).end(DOT));
            for (int bits = 0; bits <= 5; bits++) {
                fault("symbol " + symbol + " as a length", new BitRow().block(true, 1).fixed(0)
                    .match(symbol, 0, bits, 0, 0, 0).fixed(256).end(new byte[259]));
            }
        }
        for (int far : new int[] {30, 31}) {
            for (int bits = 0; bits <= 14; bits++) {
                fault("distance " + far, new BitRow().block(true, 1).fixed(0)
                    .match(257, 0, 0, far, 0, bits).fixed(256).end(new byte[4]));
                fault("distance " + far + " for nothing", new BitRow().block(true, 1).fixed(0)
                    .match(257, 0, 0, far, 0, bits).fixed(256).end(new byte[1]));
            }
        }
    }

    private static void tooFar() {
        due.sentence("a distance beyond what was put out .. are faults.");
        for (int before = 0; before <= 4; before++) {
            for (int distance = 1; distance <= 4; distance++) {
                byte[] packed = new BitRow().block(true, 1).fixed(new byte[before])
                    .match(257, 0, 0, distance - 1, 0, 0).fixed(256).end(new byte[before + 3]);
                fineIf(distance <= before, distance + " behind " + before, packed);
                if (distance > before) {
                    fault("for nothing", withSum(packed, Made.adler(new byte[before])));
                    byte[] raw = new byte[before + 3];
                    Arrays.fill(raw, before, Math.min(distance, before + 3), (byte) 255);
                    fault("for 255", withSum(packed, Made.adler(raw)));
                }
            }
        }
        for (int far = 21; far <= 29; far++) {
            int bits = distanceBits(far);
            for (int more : new int[] {0, (1 << bits) - 1}) {
                fault("distance symbol " + far, new BitRow().plain(false, new byte[MOST - 3])
                    .block(true, 1).match(257, 0, 0, far, more, bits).fixed(256)
                    .end(new byte[MOST]));
            }
        }
        // What a picture before put out is not put out here.
        due.fault("behind another picture", Made.started(1, 1, 2).control(1, 1, 0, 0, 0, 0)
            .data(Made.DOT).control(1, 1, 0, 0, 0, 0).frameData(new BitRow().block(true, 1)
            .match(259, 0, 0, 4, 0, 1).fixed(256).end(new byte[5])).mark().end(), 5);
    }

    private static void tooMuch() {
        due.sentence("and more than 1100 bytes put out are faults.");
        for (int n = MOST - 1; n <= MOST + 1; n++) {
            byte[] raw = new byte[n];
            fineIf(n <= MOST, n + " plain", new BitRow().plain(true, raw).end(raw));
            fineIf(n <= MOST, n + " plain ones", new BitRow().plain(false, new byte[n - 1])
                .plain(true, (byte) 0).end(raw));
            fineIf(n <= MOST, n + " bytes", new BitRow().block(true, 1).fixed(raw).fixed(256)
                .end(raw));
            fineIf(n <= MOST, n + " by a byte", new BitRow().plain(false, new byte[n - 1])
                .block(true, 1).fixed(0).fixed(256).end(raw));
            fineIf(n <= MOST, n + " by a match of 3", new BitRow().plain(false, new byte[n - 3])
                .block(true, 1).match(257, 0, 0, 0, 0, 0).fixed(256).end(raw));
            fineIf(n <= MOST, n + " by a match of 258", new BitRow()
                .plain(false, new byte[n - 258]).block(true, 1).match(285, 0, 0, 0, 0, 0)
                .fixed(256).end(raw));
        }
        byte[] most = new byte[MOST];
        fine("empty blocks behind 1100", new BitRow().plain(false, most).plain(false)
            .block(false, 1).fixed(256).plain(true).end(most));
        fault("a match at 1100", new BitRow().plain(false, most).block(true, 1)
            .match(257, 0, 0, 0, 0, 0).fixed(256).end(new byte[MOST + 3]));
        fault("1101, with the sum of 1100", new BitRow().plain(false, most).plain(true, (byte) 7)
            .end(most));
        fault("a byte at 1100, with the sum of 1100", new BitRow().plain(false, most)
            .block(true, 1).fixed(7).fixed(256).end(most));
        fault("a byte at 1100, at last", new BitRow().plain(false, most).block(true, 1).fixed(7)
            .end(most));
        fault("a match at 1100, with the sum of 1100", new BitRow().plain(false, most)
            .block(true, 1).match(257, 0, 0, 0, 0, 0).fixed(256).end(most));
    }

    private static void fixedLengths() {
        due.sentence("FIXED: lengths 8 for 0 .. 143, 9 for 144 .. 255, 7 for 256 .. 279, 8 for"
            + " 280 .. 287; 5 for distances 0 .. 31.");
        for (int symbol : new int[] {0, 1, 142, 143, 144, 145, 254, 255}) {
            byte[] raw = {(byte) symbol, (byte) symbol};
            fine("byte " + symbol, new BitRow().block(true, 1).fixed(raw).fixed(256).end(raw));
        }
        for (int symbol : new int[] {257, 278, 279, 280, 281, 285}) {
            int kind = symbol - 257;
            int bits = kind < 8 || kind == 28 ? 0 : kind / 4 - 1;
            fine("symbol " + symbol, new BitRow().block(true, 1).fixed(0)
                .match(symbol, 0, bits, 0, 0, 0).fixed(256).end(new byte[1 + LENGTHS[kind]]));
        }
        int[] s = BitRow.fewSymbols();
        fine("behind a told block", new BitRow().block(false, 2).told(s, new int[] {1, 1})
            .coded(s, 0, 256).block(true, 1).match(258, 0, 0, 0, 0, 0).fixed(256)
            .end(new byte[5]));
    }

    private static void toldSymbols() {
        due.sentence("5 bits and 257: how many symbols (286 at most)");
        int[] s = new int[257];
        s[0] = 1;
        s[256] = 1;
        for (int n = 257; n <= 288; n++) {
            int[] more = Arrays.copyOf(s, n);
            fineIf(n <= 286, n + " symbols", told(more, 0).coded(more, 0, 256).end(new byte[1]));
        }
        int[] last = Arrays.copyOf(s, 286);
        last[285] = 2;
        last[256] = 2;
        fine("symbol 285", told(last, 1).coded(last, 0, 285).code(0, 1).coded(last, 256)
            .end(new byte[259]));
    }

    private static void toldDistances() {
        due.sentence("5 bits and 1: how many distances (30 at most)");
        int[] s = BitRow.fewSymbols();
        for (int n = 1; n <= 32; n++) {
            int[] d = new int[n];
            fineIf(n <= 30, n + " distances", told(s, d).coded(s, 256).end(NOTHING));
            d[n - 1] = 1;
            boolean fits = n <= 30 && distanceBase(n - 1) <= 5;
            fineIf(fits, "distance " + n + " met", told(s, d).coded(s, 0, 0, 0, 0, 0, 257)
                .code(0, 1).number(0, distanceBits(n - 1)).coded(s, 256).end(new byte[8]));
        }
    }

    /** A full set of codes that has each length from low to high, with the end among them. */
    private static int[] allOf(int low, int high) {
        int[] lengths = new int[257];
        int at = 0;
        int n = low == high ? 1 << low : (1 << low) - 1;
        for (int k = 0; k < n && at < 256; k++) {
            lengths[at == 255 ? 256 : at] = low;
            at++;
        }
        for (int length = low + 1; length <= high; length++) {
            lengths[at++] = length;
        }
        if (low != high) {
            lengths[256] = high;
        }
        return lengths;
    }

    private static void toldTellers() {
        due.sentence("4 bits and 4: how many lengths of three bits, for the symbols 16 17 18 0 8 7"
            + " 9 6 10 5 11 4 12 3 13 2 14 1 15 in this order");
        int low = 8;
        int high = 8;
        for (int n = 5; n <= 19; n++) {
            low = Math.min(low, BitRow.TELLER_ORDER[n - 1]);
            high = Math.max(high, BitRow.TELLER_ORDER[n - 1]);
            int[] tellers = new int[19];
            // 0 and each length there is, by a full set: 1, 2, 3, .. bits, 7 at most.
            int many = high - low + 2;
            int bits = 32 - Integer.numberOfLeadingZeros(many - 1);
            int shorter = (1 << bits) - many;
            tellers[0] = shorter > 0 ? bits - 1 : bits;
            for (int length = low; length <= high; length++) {
                tellers[length] = length - low + 1 < shorter ? bits - 1 : bits;
            }
            int[] s = allOf(low, high);
            due.is("a set of the test's own", isFull(s) ? 1 : 0, 1);
            BitRow row = new BitRow().block(true, 2).number(0, 10).number(n - 4, 4);
            for (int k = 0; k < n; k++) {
                row.number(tellers[BitRow.TELLER_ORDER[k]], 3);
            }
            row.coded(tellers, s).coded(tellers, 0).coded(s, 0, 1, 0, 256);
            fine(n + " tellers", row.end(new byte[] {0, 1, 0}));
        }
        // 16, 17, 18 and 0 have codes: nothing but zeros can be told.
        BitRow row = new BitRow().block(true, 2).number(0, 10).number(0, 4);
        row.number(2, 3).number(2, 3).number(2, 3).number(2, 3);
        fault("4 tellers", row.code(3, 2).number(127, 7).code(3, 2).number(258 - 138 - 11, 7)
            .end(NOTHING));
    }

    private static final int[] REPEATING = tellerLengths(0, 3, 1, 3, 2, 3, 3, 3, 8, 3, 16, 3,
        17, 3, 18, 3);

    private static BitRow repeating(int symbols, int distances) {
        return new BitRow().block(true, 2).tellers(symbols, distances, REPEATING);
    }

    /** Tells a repeat: the teller, how often, less its base, in its bits. */
    private static BitRow repeat(BitRow row, int teller, int times) {
        int base = teller == 18 ? 11 : 3;
        int bits = teller == 16 ? 2 : teller == 17 ? 3 : 7;
        return row.coded(REPEATING, teller).number(times - base, bits);
    }

    private static BitRow each(BitRow row, int length, int times) {
        for (int k = 0; k < times; k++) {
            row.coded(REPEATING, length);
        }
        return row;
    }

    private static void repeats() {
        int[] s = BitRow.fewSymbols();
        int[][] kinds = {{16, 3, 6}, {17, 3, 10}, {18, 11, 138}};
        String[] words = {"16: the one before, 3 times and 2 bits more", "17: 0, 3 and 3 bits",
            "18: 0, 11 and 7 bits"};
        for (int k = 0; k < 3; k++) {
            due.sentence(words[k]);
            for (int times = kinds[k][1]; times <= kinds[k][2]; times++) {
                BitRow row = each(each(repeating(258, 1), 3, 5), 0, 251 - times);
                repeat(row, kinds[k][0], times).coded(REPEATING, 3, 2, 0);
                fine(times + " by " + kinds[k][0], row.coded(s, 0, 1, 2, 3, 4, 256).end(DOT));
            }
        }
        due.sentence("16: the one before");
        int[] eights = allOf(8, 8);
        for (int times = 3; times <= 6; times++) {
            BitRow row = repeat(each(repeating(257, 1), 8, 255 - times), 16, times);
            row.coded(REPEATING, 0, 8, 0);
            fine(times + " that are not 0", row.coded(eights, 0, 254, 256)
                .end(new byte[] {0, (byte) 254}));
        }
        BitRow row = repeat(each(repeating(258, 1), 3, 5), 18, 11);
        fine("behind 18", fortySixes(row).coded(s, 0, 256).end(new byte[1]));
        row = repeat(each(repeating(258, 1), 3, 5).coded(REPEATING, 0), 17, 10);
        fine("behind 17", fortySixes(row).coded(s, 0, 256).end(new byte[1]));
    }

    /** Forty times 16, six each, and the lengths behind the zeros. */
    private static BitRow fortySixes(BitRow row) {
        for (int k = 0; k < 40; k++) {
            repeat(row, 16, 6);
        }
        return row.coded(REPEATING, 3, 2, 0);
    }

    private static void beyondTheEnd() {
        due.sentence("not beyond the end, nor 16 at first");
        int[] s = BitRow.fewSymbols();
        int[][] kinds = {{16, 3, 6}, {17, 3, 10}, {18, 11, 28}};
        for (int[] kind : kinds) {
            for (int times = kind[1]; times <= kind[2]; times++) {
                for (int distances = times - 1; distances <= times + 1; distances++) {
                    BitRow row = each(each(repeating(258, 1 + distances), 3, 5), 0, 251);
                    row.coded(REPEATING, 3, 2, 0);
                    repeat(row, kind[0], times);
                    each(row, 0, Math.max(0, distances - times));
                    fineIf(times <= distances, times + " by " + kind[0] + " for " + distances,
                        row.coded(s, 0, 256).end(new byte[1]));
                }
            }
        }
        for (int times = 3; times <= 6; times++) {
            BitRow row = repeat(repeating(258, 1), 16, times);
            each(row, 3, Math.max(0, 5 - times));
            each(row, 0, 251 - Math.max(0, times - 5));
            row.coded(REPEATING, 3, 2, 0);
            fault("16 at first", row.coded(s, 0, 256).end(new byte[1]));
            // A block before has told lengths, but none of this one.
            row = new BitRow().block(false, 2).told(s, new int[] {3, 3, 3, 3, 3, 3, 3, 3})
                .coded(s, 256).block(true, 2).tellers(258, 1, REPEATING);
            repeat(row, 16, 5);
            each(row, 0, 251).coded(REPEATING, 3, 2, 0);
            fault("16 at first of a second block", row.coded(s, 0, 256).end(new byte[1]));
        }
        // From symbols on to distances: 2 for 257 goes on as 2 2 2 2.
        BitRow row = each(each(repeating(258, 4), 3, 5), 0, 251).coded(REPEATING, 3, 2);
        repeat(row, 16, 4).coded(s, 0, 1, 2, 3, 257).code(3, 2).coded(s, 256);
        fine("on to distances", row.end(new byte[] {0, 1, 2, 3, 0, 1, 2}));
    }

    private static void endHasCode() {
        due.sentence("Symbol 256 has a code.");
        int[] s = BitRow.fewSymbols();
        fine("it has", new BitRow().plain(false, DOT).block(true, 2).told(s, new int[1])
            .coded(s, 256).end(DOT));
        s[256] = 0;
        s[255] = 3;
        due.is("a set of the test's own", isFull(s) ? 1 : 0, 1);
        fault("it has none", new BitRow().plain(false, DOT).block(true, 2).told(s, new int[1])
            .end(DOT));
        fault("it has none, and bytes follow", told(s, 0).coded(s, 0, 1, 2, 3, 4).end(DOT));
        byte[] most = new byte[MOST];
        BitRow row = told(s, 0);
        for (int k = 0; k < MOST; k++) {
            row.coded(s, 0);
        }
        fault("it has none, and 1100 bytes follow", row.end(most));
    }

    private static void cutAnywhere() {
        due.sentence("5: .. its packed bytes");
        int[] s = BitRow.fewSymbols();
        byte[] raw = {0, 1, 2, 3, 4, 0, 1, 2, 3, 4, 1, 1, 1, 1, 1, 1};
        byte[] packed = new BitRow().plain(false, DOT).block(false, 1)
            .match(259, 0, 0, 4, 0, 1).fixed(256).block(true, 2).told(s, new int[] {1})
            .coded(s, 1, 1, 1, 257).code(0, 1).coded(s, 256).end(raw);
        fine("three sorts of blocks", packed);
        for (int n = 0; n < packed.length; n++) {
            fault("cut at " + n, Arrays.copyOf(packed, n));
        }
    }
}
