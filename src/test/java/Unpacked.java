import java.util.Arrays;
import java.util.EnumSet;
import java.util.HashMap;
import java.util.List;
import java.util.Map;
import java.util.Set;

/**
 * Packed bytes as the document tells them, on texts of bits and maps of codes: slow, and alike to
 * the class in nothing but the answers. It tells why packed bytes are at fault, and goes on behind
 * a fault as a careless reader would: a test can then make the sum right for such a reader.
 */
final class Unpacked {
    /** Every fault that packed bytes can have. */
    enum Fault {
        FIRST_BYTES, ENDED, KIND_3, NOT_TURNED, MORE_CODES, FEWER_CODES, TOO_MANY_SYMBOLS,
        TOO_MANY_DISTANCES, SIXTEEN_AT_FIRST, BEYOND_THE_LENGTHS, NO_END_CODE, NO_CODE, NO_LENGTH,
        NO_DISTANCE, TOO_FAR, TOO_MUCH, SUM, BEHIND
    }

    private static final class Stop extends RuntimeException {
        private static final long serialVersionUID = 1;
        private final Fault fault;

        Stop(Fault fault) {
            super(fault.name(), null, false, false);
            this.fault = fault;
        }
    }

    private static final int MOST = 1100;
    private static final int CARELESS_MOST = 4000;
    // Behind these there is something that a careless reader could take.
    private static final Set<Fault> PASSED = EnumSet.of(Fault.FIRST_BYTES, Fault.NOT_TURNED,
        Fault.MORE_CODES, Fault.FEWER_CODES, Fault.TOO_MANY_SYMBOLS, Fault.TOO_MANY_DISTANCES,
        Fault.SIXTEEN_AT_FIRST, Fault.BEYOND_THE_LENGTHS, Fault.NO_END_CODE, Fault.TOO_FAR,
        Fault.TOO_MUCH);
    private static final List<Integer> ORDER =
        List.of(16, 17, 18, 0, 8, 7, 9, 6, 10, 5, 11, 4, 12, 3, 13, 2, 14, 1, 15);

    private final String bits;
    private final byte[] room = new byte[CARELESS_MOST];
    private int at = 0;
    private int size = 0;
    private int blocksEnd = -1;
    private Fault fault = null;

    Unpacked(byte[] packed) {
        StringBuilder row = new StringBuilder();
        for (byte b : packed) {
            for (int k = 0; k < 8; k++) {
                row.append((char) ('0' + (b >> k & 1)));
            }
        }
        bits = row.toString();
        try {
            unpack();
        } catch (Stop stop) {
            note(stop.fault);
        }
    }

    private void note(Fault met) {
        fault = fault == null ? met : fault;
    }

    /** The first one; null when there is none. */
    Fault fault() {
        return fault;
    }

    byte[] raw() {
        return Arrays.copyOf(room, size);
    }

    /** How many bytes come before the sum; -1 when nobody can tell where the blocks end. */
    int blocksEnd() {
        return blocksEnd;
    }

    private void check(boolean is, Fault otherwise) {
        if (!is && !PASSED.contains(otherwise)) {
            throw new Stop(otherwise);
        }
        if (!is) {
            note(otherwise);
        }
    }

    private String take(int n) {
        check(at + n <= bits.length(), Fault.ENDED);
        at += n;
        return bits.substring(at - n, at);
    }

    private int number(int n) {
        return n == 0 ? 0
            : Integer.parseInt(new StringBuilder(take(n)).reverse().toString(), 2);
    }

    private void toByte() {
        while (at % 8 != 0) {
            at++;
        }
    }

    private void put(int b) {
        check(size < MOST, Fault.TOO_MUCH);
        if (size == CARELESS_MOST) {
            throw new Stop(Fault.TOO_MUCH);
        }
        room[size++] = (byte) b;
    }

    private void unpack() {
        int method = number(8);
        int second = number(8);
        check(method == 120 && (method * 256 + second) % 31 == 0 && second / 32 % 2 == 0,
            Fault.FIRST_BYTES);
        boolean isLast = false;
        while (!isLast) {
            isLast = number(1) == 1;
            block(number(2));
        }
        toByte();
        blocksEnd = at / 8;
        long sum = 0;
        for (int k = 0; k < 4; k++) {
            sum = sum * 256 + number(8);
        }
        check((int) sum == Made.adler(raw()), Fault.SUM);
        check(at == bits.length(), Fault.BEHIND);
    }

    private void block(int kind) {
        check(kind != 3, Fault.KIND_3);
        if (kind == 0) {
            plain();
        } else if (kind == 1) {
            int[] lengths = new int[288];
            Arrays.fill(lengths, 0, 144, 8);
            Arrays.fill(lengths, 144, 256, 9);
            Arrays.fill(lengths, 256, 280, 7);
            Arrays.fill(lengths, 280, 288, 8);
            int[] fives = new int[32];
            Arrays.fill(fives, 5);
            coded(codes(lengths, false), codes(fives, false));
        } else {
            told();
        }
    }

    private void plain() {
        toByte();
        String n = take(16);
        String turned = take(16);
        for (int k = 0; k < 16; k++) {
            check(n.charAt(k) != turned.charAt(k), Fault.NOT_TURNED);
        }
        int many = Integer.parseInt(new StringBuilder(n).reverse().toString(), 2);
        for (int k = 0; k < many; k++) {
            put(number(8));
        }
    }

    private void told() {
        int symbols = number(5) + 257;
        int distances = number(5) + 1;
        int tellers = number(4) + 4;
        check(symbols <= 286, Fault.TOO_MANY_SYMBOLS);
        check(distances <= 30, Fault.TOO_MANY_DISTANCES);
        int[] tellerLengths = new int[19];
        for (int k = 0; k < tellers; k++) {
            tellerLengths[ORDER.get(k)] = number(3);
        }
        Map<String, Integer> codes = codes(tellerLengths, false);
        StringBuilder lengths = new StringBuilder();
        int all = symbols + distances;
        while (lengths.length() < all) {
            int teller = symbol(codes);
            check(teller != 16 || lengths.length() > 0, Fault.SIXTEEN_AT_FIRST);
            switch (teller) {
                case 16 -> {
                    String before = "a".concat(lengths.toString()).substring(lengths.length());
                    lengths.append(before.repeat(3 + number(2)));
                }
                case 17 -> lengths.append("a".repeat(3 + number(3)));
                case 18 -> lengths.append("a".repeat(11 + number(7)));
                default -> lengths.append((char) ('a' + teller));
            }
        }
        check(lengths.length() == all, Fault.BEYOND_THE_LENGTHS);
        int[] row = lengths.chars().map(c -> c - 'a').limit(all).toArray();
        check(row[256] != 0, Fault.NO_END_CODE);
        coded(codes(Arrays.copyOf(row, symbols), false),
            codes(Arrays.copyOfRange(row, symbols, all), true));
    }

    /** The codes as texts of bits. */
    private Map<String, Integer> codes(int[] lengths, boolean mayBeFew) {
        long taken = 0;
        int used = 0;
        for (int length : lengths) {
            taken += length == 0 ? 0 : 1L << 15 - length;
            used += length == 0 ? 0 : 1;
        }
        check(taken <= 1 << 15, Fault.MORE_CODES);
        boolean isFew = used == 0 || used == 1 && taken == 1 << 14;
        check(taken == 1 << 15 || mayBeFew && isFew, Fault.FEWER_CODES);
        Map<String, Integer> codes = new HashMap<>();
        int next = 0;
        for (int length = 1; length <= 15; length++) {
            for (int k = 0; k < lengths.length; k++) {
                if (lengths[k] == length) {
                    String code = Integer.toBinaryString(next++);
                    // Of more codes than there can be some have too many bits.
                    codes.put("0".repeat(Math.max(0, length - code.length())) + code, k);
                }
            }
            next *= 2;
        }
        return codes;
    }

    private int symbol(Map<String, Integer> codes) {
        String code = "";
        for (int k = 0; k < 15; k++) {
            code += take(1);
            Integer symbol = codes.get(code);
            if (symbol != null) {
                return symbol;
            }
        }
        throw new Stop(Fault.NO_CODE);
    }

    private void coded(Map<String, Integer> symbols, Map<String, Integer> distances) {
        for (int symbol = symbol(symbols); symbol != 256; symbol = symbol(symbols)) {
            if (symbol < 256) {
                put(symbol);
            } else {
                check(symbol <= 285, Fault.NO_LENGTH);
                int length = lengthBase(symbol) + number(lengthBits(symbol));
                int far = symbol(distances);
                check(far <= 29, Fault.NO_DISTANCE);
                int distance = distanceBase(far) + number(distanceBits(far));
                check(distance <= size, Fault.TOO_FAR);
                for (int k = 0; k < length; k++) {
                    put(size < distance ? -1 : room[size - distance]);
                }
            }
        }
    }

    /** By the rule behind the document's table: each base is the one before and its range. */
    static int lengthBase(int symbol) {
        int base = 3;
        for (int k = 257; k < symbol; k++) {
            base += 1 << lengthBits(k);
        }
        return symbol == 285 ? 258 : base;
    }

    static int lengthBits(int symbol) {
        return symbol < 265 || symbol == 285 ? 0 : (symbol - 261) / 4;
    }

    static int distanceBase(int far) {
        int base = 1;
        for (int k = 0; k < far; k++) {
            base += 1 << distanceBits(k);
        }
        return base;
    }

    static int distanceBits(int far) {
        return far < 4 ? 0 : far / 2 - 1;
    }
}
