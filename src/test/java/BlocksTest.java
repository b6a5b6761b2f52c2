import java.util.ArrayList;
import java.util.Arrays;
import java.util.List;
import java.util.Random;
import java.util.stream.IntStream;

/**
 * Promise 4: packed bytes of random blocks, many of them damaged, against Unpacked. The sum is that
 * of what a careless reader would put out, so that only a reader who looks finds the damage.
 */
final class BlocksTest {
    private static final Due due = new Due("BlocksTest");
    private static final int TURNS = 12000;
    private static final byte[] NOTHING = {};
    // With 120 before them divisible by 31; bit 5 is 0 in some of them.
    private static final int[] SECOND_BYTES = {1, 32, 63, 94, 125, 156, 187, 218, 249};

    private final Random random;
    private final BitRow row = new BitRow();
    // About how many bytes were put out, so that most distances are not too far.
    private int size = 0;

    private BlocksTest(int seed) {
        random = new Random(seed);
    }

    public static void main(String[] args) {
        int turns = args.length == 0 ? TURNS : Integer.parseInt(args[0]);
        int[] met = new int[Unpacked.Fault.values().length];
        int fine = 0;
        for (int seed = 0; seed < turns; seed++) {
            byte[] packed = new BlocksTest(seed).packed();
            Unpacked want = new Unpacked(packed);
            if (want.fault() == null) {
                fine++;
            } else {
                met[want.fault().ordinal()]++;
            }
            due.is("seed " + seed + ", " + want.fault(), answer(packed), answer(want));
        }
        due.is("packed bytes without a fault are many: " + fine, fine > TURNS / 10 ? 1 : 0, 1);
        for (Unpacked.Fault fault : Unpacked.Fault.values()) {
            int n = met[fault.ordinal()];
            due.is(fault + " is met often: " + n, n >= 20 ? 1 : 0, 1);
        }
        due.end();
    }

    private static int answer(byte[] packed) {
        FrameReel reel = new FrameReel();
        Made.typeIn(reel, Made.beforeDot().data(packed).end().bytes());
        return reel.read();
    }

    private static int answer(Unpacked want) {
        if (want.fault() != null) {
            return -5;
        }
        byte[] raw = want.raw();
        return raw.length == 5 && raw[0] >= 0 && raw[0] <= 4 ? 1 : -6;
    }

    private boolean chance(int n) {
        return random.nextInt(n) == 0;
    }

    private byte[] packed() {
        int blocks = 1 + random.nextInt(3);
        for (int k = 1; k <= blocks; k++) {
            block(k == blocks && !chance(100));
        }
        byte[] made = row.end(NOTHING);
        byte[] body = Arrays.copyOf(made, made.length - 4);
        if (chance(8)) {
            body[1] = (byte) SECOND_BYTES[random.nextInt(SECOND_BYTES.length)];
        }
        for (int k = chance(2) ? random.nextInt(3) : 0; k > 0; k--) {
            body[random.nextInt(body.length)] ^= (byte) (1 << random.nextInt(8));
        }
        return summed(body);
    }

    /** With the sum of what is put out, where somebody could tell the end of the blocks. */
    private byte[] summed(byte[] body) {
        byte[] more = new byte[4 + random.nextInt(4)];
        random.nextBytes(more);
        byte[] all = Made.joined(body, more);
        Unpacked first = new Unpacked(all);
        if (first.blocksEnd() < 0) {
            return chance(2) ? all : body;
        }
        int sum = Made.adler(first.raw()) ^ (chance(50) ? 1 << random.nextInt(32) : 0);
        byte[] packed = Made.joined(Arrays.copyOf(all, first.blocksEnd()), Made.numbers(sum));
        return chance(50) ? Arrays.copyOf(packed, packed.length + random.nextInt(3) - 1) : packed;
    }

    private void block(boolean isLast) {
        int kind = chance(100) ? 3 : Math.min(2, random.nextInt(5));
        if (kind == 0) {
            plain(isLast);
            return;
        }
        row.block(isLast, kind);
        if (kind == 1) {
            int[] lengths = new int[288];
            Arrays.fill(lengths, 8);
            Arrays.fill(lengths, 144, 256, 9);
            Arrays.fill(lengths, 256, 280, 7);
            int[] fives = new int[32];
            Arrays.fill(fives, 5);
            coded(lengths, fives);
        } else if (kind == 2) {
            told();
        }
    }

    private void plain(boolean isLast) {
        byte[] bytes = new byte[chance(20) ? 1090 + random.nextInt(15) : random.nextInt(40)];
        random.nextBytes(bytes);
        row.plainWith(random.nextInt(2), isLast, bytes);
        size += bytes.length;
    }

    private void told() {
        int[] symbols = new int[257 + random.nextInt(chance(20) ? 32 : 30)];
        int[] distances = new int[1 + random.nextInt(chance(20) ? 32 : 30)];
        int most = chance(4) ? symbols.length : Math.min(symbols.length, 20);
        share(symbols, 2 + random.nextInt(most - 1), 15);
        if (!chance(20)) {
            giveEndACode(symbols);
        }
        share(distances, chance(4) ? 1 : random.nextInt(distances.length + 1), 15);
        if (chance(6)) {
            int[] damaged = chance(2) ? symbols : distances;
            int i = random.nextInt(damaged.length);
            damaged[i] = chance(3) ? random.nextInt(16) : Math.min(15, damaged[i] + 1);
        }
        lengths(symbols, distances);
        coded(symbols, distances);
    }

    /** Takes the length of another symbol for 256, if it has none. */
    private void giveEndACode(int[] symbols) {
        int start = random.nextInt(256);
        for (int k = 0; k < 256 && symbols[256] == 0; k++) {
            int other = (start + k) % 256;
            symbols[256] = symbols[other];
            symbols[other] = 0;
        }
    }

    /** Gives lengths of a full set of codes to some of the symbols; one alone has the length 1. */
    private void share(int[] lengths, int used, int longest) {
        List<Integer> leaves = new ArrayList<>(List.of(used == 1 ? 1 : 0));
        int narrow = random.nextInt(3);
        while (leaves.size() < used) {
            int i = narrow == 0 ? leaves.size() - 1 : random.nextInt(leaves.size());
            int depth = leaves.get(i);
            if (depth == longest) {
                i = leaves.indexOf(leaves.stream().min(Integer::compare).get());
                depth = leaves.get(i);
            }
            leaves.set(i, depth + 1);
            leaves.add(depth + 1);
        }
        for (int k = 0; k < used; k++) {
            int i = random.nextInt(lengths.length);
            while (lengths[i] != 0) {
                i = (i + 1) % lengths.length;
            }
            lengths[i] = leaves.get(k);
        }
    }

    /** The head of a told block: counts, tellers, and the lengths as the tellers tell them. */
    private void lengths(int[] symbols, int[] distances) {
        int[] all = Arrays.copyOf(symbols, symbols.length + distances.length);
        System.arraycopy(distances, 0, all, symbols.length, distances.length);
        List<int[]> told = tellersFor(all);
        int[] tellers = new int[19];
        int used = (int) told.stream().mapToInt(t -> t[0]).distinct().count();
        int[] shared = new int[Math.max(2, used + (used < 19 ? random.nextInt(20 - used) : 0))];
        share(shared, shared.length, 7);
        int next = 0;
        for (int[] t : told) {
            if (tellers[t[0]] == 0) {
                tellers[t[0]] = shared[next++];
            }
        }
        for (int k = random.nextInt(19); next < shared.length; k = (k + 1) % 19) {
            if (tellers[k] == 0) {
                tellers[k] = shared[next++];
            }
        }
        if (chance(25)) {
            tellers[random.nextInt(19)] = random.nextInt(8);
        }
        head(symbols.length, distances.length, tellers);
        for (int[] t : told) {
            if (tellers[t[0]] != 0) {
                row.coded(tellers, t[0]).number(t[1], t[2]);
            }
        }
    }

    private void head(int symbols, int distances, int[] tellers) {
        int n = 19;
        while (n > 4 && tellers[BitRow.TELLER_ORDER[n - 1]] == 0 && !chance(10)) {
            n--;
        }
        row.number(symbols - 257, 5).number(distances - 1, 5).number(n - 4, 4);
        for (int k = 0; k < n; k++) {
            row.number(tellers[BitRow.TELLER_ORDER[k]], 3);
        }
    }

    /** Tellers, each with its more bits and how many they are; runs are told as runs at times. */
    private List<int[]> tellersFor(int[] all) {
        List<int[]> told = new ArrayList<>();
        boolean startsWrong = chance(30);
        for (int k = 0; k < all.length;) {
            int run = 1;
            while (k + run < all.length && all[k + run] == all[k]) {
                run++;
            }
            boolean isLast = k + run == all.length;
            int over = isLast && chance(8) ? 1 + random.nextInt(3) : 0;
            if (k == 0 && all[k] == 0 && run >= 3 && startsWrong) {
                told.add(new int[] {16, 0, 2});
                k += 3;
            } else if (all[k] == 0 && run + over >= 11 && !chance(10)) {
                int times = Math.min(138, run + over);
                told.add(new int[] {18, times - 11, 7});
                k += times;
            } else if (all[k] == 0 && run + over >= 3 && !chance(4)) {
                int times = Math.min(10, run + over);
                told.add(new int[] {17, times - 3, 3});
                k += times;
            } else if (k > 0 && all[k] == all[k - 1] && run + over >= 3 && !chance(4)) {
                int times = Math.min(6, run + over);
                told.add(new int[] {16, times - 3, 2});
                k += times;
            } else {
                told.add(new int[] {all[k], 0, 0});
                k++;
            }
        }
        return told;
    }

    /** Bytes and matches of those that have codes, and the end. */
    private void coded(int[] symbols, int[] distances) {
        int[] have = having(symbols);
        int many = chance(12) ? 1200 : random.nextInt(60);
        for (int k = 0; k < many && have.length > 0; k++) {
            int symbol = have[random.nextInt(have.length)];
            if (symbol < 256) {
                row.coded(symbols, symbol);
                size++;
            } else if (symbol > 256) {
                match(symbols, symbol, distances);
            }
        }
        if (symbols[256] != 0) {
            row.coded(symbols, 256);
        }
    }

    private static int[] having(int[] lengths) {
        return IntStream.range(0, lengths.length)
            .filter(k -> lengths[k] != 0).toArray();
    }

    private void match(int[] symbols, int symbol, int[] distances) {
        boolean isWild = chance(50);
        int[] have = Arrays.stream(having(distances))
            .filter(far -> isWild || far < 30 && Unpacked.distanceBase(far) <= size).toArray();
        if (!isWild && (symbol > 285 || have.length == 0 || size > 1100)) {
            return;
        }
        row.coded(symbols, symbol);
        int length = 0;
        if (symbol <= 285) {
            int bits = Unpacked.lengthBits(symbol);
            int more = chance(3) ? (1 << bits) - 1 : random.nextInt(1 << bits);
            row.number(more, bits);
            length = Unpacked.lengthBase(symbol) + more;
        }
        if (have.length == 0) {
            row.number(random.nextInt(), 3);
            return;
        }
        int far = have[random.nextInt(have.length)];
        row.coded(distances, far);
        if (far < 30) {
            int room = isWild ? 1 << 14 : size - Unpacked.distanceBase(far) + 1;
            int bits = Unpacked.distanceBits(far);
            int most = Math.min(1 << bits, room);
            row.number(chance(3) ? most - 1 : random.nextInt(most), bits);
        }
        size += length;
    }
}
