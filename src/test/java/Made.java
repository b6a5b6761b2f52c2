import java.io.ByteArrayOutputStream;
import java.nio.ByteBuffer;
import java.nio.charset.StandardCharsets;
import java.util.Arrays;
import java.util.zip.Adler32;
import java.util.zip.CRC32;
import java.util.zip.Deflater;

/** A file in the making, right or wrong as a test asks; its sums and packing are the library's. */
final class Made {
    static final byte[] SIGNATURE = {(byte) 137, 80, 78, 71, 13, 10, 26, 10};
    static final int DOT_COLOUR = 0x11223344;
    /** The packed bytes of one pixel. */
    static final byte[] DOT = picture(1, 1, DOT_COLOUR);

    private ByteArrayOutputStream all = new ByteArrayOutputStream();
    private int serial = 0;
    private int marked = -1;

    Made() {
        all.writeBytes(SIGNATURE);
    }

    /** A file with its IHDR and acTL. */
    static Made started(int width, int height, int frames) {
        return new Made().head(width, height).counts(frames, 0);
    }

    /** A canvas of one pixel, up to the IDAT of its only frame. */
    static Made beforeDot() {
        return started(1, 1, 1).control(1, 1, 0, 0, 0, 0);
    }

    /** A canvas of one pixel, up to the fdAT of its only frame. */
    static Made beforeFrameDot() {
        return started(1, 1, 1).data(DOT).control(1, 1, 0, 0, 0, 0);
    }

    /** The place of the type of the chunk that comes next. */
    int next() {
        return all.size() + 4;
    }

    /** Keeps the place of the type of the chunk that comes next. */
    Made mark() {
        marked = next();
        return this;
    }

    int marked() {
        return marked;
    }

    int size() {
        return all.size();
    }

    byte[] bytes() {
        return all.toByteArray();
    }

    Made raw(byte... bytes) {
        all.writeBytes(bytes);
        return this;
    }

    /** Turns a bit of the last byte, so that the sum of the last chunk is another one. */
    Made turnLast() {
        byte[] bytes = bytes();
        bytes[bytes.length - 1] ^= 1;
        all = new ByteArrayOutputStream();
        return raw(bytes);
    }

    Made chunk(String type, byte... data) {
        byte[] name = type.getBytes(StandardCharsets.ISO_8859_1);
        CRC32 sum = new CRC32();
        sum.update(name);
        sum.update(data);
        all.writeBytes(numbers(data.length));
        all.writeBytes(name);
        all.writeBytes(data);
        all.writeBytes(numbers((int) sum.getValue()));
        return this;
    }

    Made head(int width, int height) {
        return chunk("IHDR", headData(width, height, 8, 6, 0, 0, 0));
    }

    static byte[] headData(int width, int height, int... last) {
        return joined(numbers(width, height), small(last));
    }

    Made counts(int frames, int plays) {
        return chunk("acTL", numbers(frames, plays));
    }

    Made control(int width, int height, int x, int y, int dispose, int blend) {
        return chunk("fcTL", controlData(serial++, width, height, x, y, dispose, blend));
    }

    static byte[] controlData(int serial, int width, int height, int x, int y,
            int dispose, int blend) {
        return joined(numbers(serial, width, height, x, y, 0x00FF1234), small(dispose, blend));
    }

    /** A fcTL whose serial is the test's own. */
    Made controlOf(int itsSerial, int width, int height) {
        return chunk("fcTL", controlData(itsSerial, width, height, 0, 0, 0, 0));
    }

    Made data(byte[] packed) {
        return chunk("IDAT", packed);
    }

    Made frameData(byte[] packed) {
        return chunk("fdAT", joined(numbers(serial++), packed));
    }

    /** A fdAT whose serial is the test's own. */
    Made frameDataOf(int itsSerial, byte[] packed) {
        return chunk("fdAT", joined(numbers(itsSerial), packed));
    }

    Made end() {
        return chunk("IEND");
    }

    static byte[] numbers(int... numbers) {
        ByteBuffer buffer = ByteBuffer.allocate(4 * numbers.length);
        for (int n : numbers) {
            buffer.putInt(n);
        }
        return buffer.array();
    }

    static byte[] small(int... bytes) {
        byte[] row = new byte[bytes.length];
        for (int k = 0; k < bytes.length; k++) {
            row[k] = (byte) bytes[k];
        }
        return row;
    }

    static byte[] joined(byte[]... parts) {
        ByteArrayOutputStream out = new ByteArrayOutputStream();
        for (byte[] part : parts) {
            out.writeBytes(part);
        }
        return out.toByteArray();
    }

    static int adler(byte[] raw) {
        Adler32 sum = new Adler32();
        sum.update(raw);
        return (int) sum.getValue();
    }

    static byte[] packed(byte[] raw) {
        return packed(raw, 9, Deflater.DEFAULT_STRATEGY);
    }

    static byte[] packed(byte[] raw, int level, int strategy) {
        Deflater deflater = new Deflater(level);
        deflater.setStrategy(strategy);
        deflater.setInput(raw);
        deflater.finish();
        byte[] buffer = new byte[4 * raw.length + 100];
        int n = 0;
        while (!deflater.finished()) {
            n += deflater.deflate(buffer, n, buffer.length - n);
        }
        deflater.end();
        return Arrays.copyOf(buffer, n);
    }

    /** Rows without filters. */
    static byte[] rows(int width, int height, int... pixels) {
        ByteBuffer buffer = ByteBuffer.allocate(height * (1 + 4 * width));
        for (int y = 0; y < height; y++) {
            buffer.put((byte) 0);
            for (int x = 0; x < width; x++) {
                buffer.putInt(pixels[y * width + x]);
            }
        }
        return buffer.array();
    }

    /** A right picture, packed. */
    static byte[] picture(int width, int height, int... pixels) {
        return packed(rows(width, height, pixels));
    }

    static void typeIn(FrameReel reel, byte[] file) {
        ByteBuffer buffer = ByteBuffer.wrap(file);
        while (buffer.remaining() >= 16) {
            reel.words(buffer.getInt(), buffer.getInt(), buffer.getInt(), buffer.getInt());
        }
        while (buffer.remaining() >= 4) {
            reel.type(buffer.getInt(), 4);
        }
        while (buffer.hasRemaining()) {
            reel.type(buffer.get(), 1);
        }
    }
}
