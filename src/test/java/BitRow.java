import java.io.ByteArrayOutputStream;

/** Packed bytes in the making, bit by bit. */
final class BitRow {
    static final int[] TELLER_ORDER =
        {16, 17, 18, 0, 8, 7, 9, 6, 10, 5, 11, 4, 12, 3, 13, 2, 14, 1, 15};

    private final ByteArrayOutputStream bytes = new ByteArrayOutputStream();
    private int held = 0;
    private int heldBits = 0;

    BitRow() {
        bytes.write(120);
        bytes.write(1);
    }

    BitRow number(int value, int n) {
        for (int k = 0; k < n; k++) {
            bit(value >> k & 1);
        }
        return this;
    }

    BitRow code(int value, int n) {
        for (int k = n - 1; k >= 0; k--) {
            bit(value >> k & 1);
        }
        return this;
    }

    private void bit(int b) {
        held |= b << heldBits;
        heldBits++;
        if (heldBits == 8) {
            bytes.write(held);
            held = 0;
            heldBits = 0;
        }
    }

    /** Fills the byte that was begun with bits that nobody should look at. */
    BitRow toByte() {
        return toByte(1);
    }

    BitRow toByte(int filling) {
        while (heldBits != 0) {
            bit(filling);
        }
        return this;
    }

    BitRow block(boolean isLast, int kind) {
        return number(isLast ? 1 : 0, 1).number(kind, 2);
    }

    BitRow plain(boolean isLast, byte... data) {
        return plainWith(1, isLast, data);
    }

    /** A plain block whose bits that are left out are these. */
    BitRow plainWith(int filling, boolean isLast, byte... data) {
        block(isLast, 0).toByte(filling).number(data.length, 16).number(~data.length, 16);
        for (byte b : data) {
            number(b, 8);
        }
        return this;
    }

    /** A symbol as a fixed block has it. */
    BitRow fixed(int symbol) {
        if (symbol < 144) {
            return code(0x30 + symbol, 8);
        }
        if (symbol < 256) {
            return code(0x190 + symbol - 144, 9);
        }
        return symbol < 280 ? code(symbol - 256, 7) : code(0xC0 + symbol - 280, 8);
    }

    BitRow fixed(byte... literals) {
        for (byte b : literals) {
            fixed(b & 255);
        }
        return this;
    }

    /** A match of a fixed block, its symbols and more bits given one by one. */
    BitRow match(int symbol, int more, int bits, int distance, int farMore, int farBits) {
        return fixed(symbol).number(more, bits).code(distance, 5).number(farMore, farBits);
    }

    /** The head of a told block; lengths for the tellers 0 .. 18. */
    BitRow tellers(int symbols, int distances, int... lengths) {
        number(symbols - 257, 5).number(distances - 1, 5).number(15, 4);
        for (int teller : TELLER_ORDER) {
            number(lengths[teller], 3);
        }
        return this;
    }

    /** The head of a told block that tells each length plainly, with four bits. */
    BitRow told(int[] symbols, int[] distances) {
        int[] lengths = new int[19];
        for (int k = 0; k < 16; k++) {
            lengths[k] = 4;
        }
        tellers(symbols.length, distances.length, lengths);
        for (int length : symbols) {
            code(length, 4);
        }
        for (int length : distances) {
            code(length, 4);
        }
        return this;
    }

    /** Lengths for the bytes 0 .. 4, the end, and a match of 3. */
    static int[] fewSymbols() {
        int[] symbols = new int[258];
        java.util.Arrays.fill(symbols, 0, 5, 3);
        symbols[256] = 3;
        symbols[257] = 2;
        return symbols;
    }

    /** Symbols by their lengths, as the document tells codes. */
    BitRow coded(int[] lengths, int... symbols) {
        for (int symbol : symbols) {
            codeOf(lengths, symbol);
        }
        return this;
    }

    private BitRow codeOf(int[] lengths, int symbol) {
        int lowest = 0;
        for (int l = 1; l < lengths[symbol]; l++) {
            lowest = 2 * (lowest + many(lengths, l, lengths.length));
        }
        return code(lowest + many(lengths, lengths[symbol], symbol), lengths[symbol]);
    }

    private static int many(int[] lengths, int length, int end) {
        int n = 0;
        for (int k = 0; k < end; k++) {
            n += lengths[k] == length ? 1 : 0;
        }
        return n;
    }

    byte[] end(byte[] raw) {
        toByte();
        return Made.joined(bytes.toByteArray(), Made.numbers(Made.adler(raw)));
    }
}
