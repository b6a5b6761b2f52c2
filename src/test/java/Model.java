import java.io.ByteArrayOutputStream;
import java.nio.ByteBuffer;
import java.nio.charset.StandardCharsets;
import java.util.ArrayList;
import java.util.Arrays;
import java.util.List;
import java.util.regex.Matcher;
import java.util.regex.Pattern;
import java.util.zip.CRC32;
import java.util.zip.DataFormatException;
import java.util.zip.Inflater;

/** The document once more, as plainly as the Java library allows: what FrameReel has to answer. */
final class Model {
    private static final int NONE = -1, UNKNOWN = -11, OUTSIDE = -12, STATE = -13, ROOM = -14;
    // H IHDR, A acTL, F fcTL, I IDAT, D fdAT, E IEND, o another that may stand.
    private static final Pattern ORDER = Pattern.compile("Ho*Ao*F?I+o*(?:FD+o*)*E");

    private static final class Picture {
        int[] facts;
        int[][] pixels;

        Picture(int... facts) {
            this.facts = facts;
            pixels = new int[facts[1]][facts[0]];
        }
    }

    private static final class Reel {
        int width;
        int height;
        int plays;
        final List<Picture> frames = new ArrayList<>();
        Picture own;

        Picture defaultPicture() {
            return own == null ? frames.get(0) : own;
        }
    }

    private final ByteArrayOutputStream tape = new ByteArrayOutputStream();
    private Reel reel = null;
    private int place = NONE;
    private int[][] shown = null;
    private byte[] written = {};

    int type(int w, int n) {
        if (n < 1 || n > 4) {
            return OUTSIDE;
        }
        return typed(Arrays.copyOfRange(Made.numbers(w), 4 - n, 4));
    }

    int words(int a, int b, int c, int d) {
        return typed(Made.numbers(a, b, c, d));
    }

    private int typed(byte[] bytes) {
        if (tape.size() + bytes.length > 8000) {
            return ROOM;
        }
        tape.writeBytes(bytes);
        return tape.size();
    }

    int read() {
        Reading reading = new Reading(tape.toByteArray());
        tape.reset();
        int fault = reading.fault();
        place = fault == 0 ? NONE : reading.place;
        if (fault != 0) {
            return -fault;
        }
        reel = reading.reel;
        shown = null;
        return reel.frames.size();
    }

    /** One reading of a file, and the reel that it tells. */
    private static final class Reading {
        final byte[] file;
        final Reel reel = new Reel();
        final ByteArrayOutputStream packed = new ByteArrayOutputStream();
        Picture picture = null;
        String row = "";
        int place = 0;
        int at = 8;
        int told = 0;
        int serial = 0;

        Reading(byte[] file) {
            this.file = file;
        }

        int fault() {
            place = Arrays.mismatch(Arrays.copyOf(file, Math.min(8, file.length)), Made.SIGNATURE);
            if (place >= 0) {
                return 1;
            }
            int fault = 0;
            while (fault == 0 && !row.endsWith("E")) {
                fault = chunkFault();
            }
            if (fault == 0 && at < file.length) {
                place = at;
                fault = 4;
            }
            return fault;
        }

        private int chunkFault() {
            place = file.length;
            int room = file.length - at - 12;
            if (room < 0 || Integer.toUnsignedLong(number(at)) > room) {
                return 2;
            }
            int n = number(at);
            place = at + 4;
            CRC32 sum = new CRC32();
            sum.update(file, at + 4, 4 + n);
            if ((int) sum.getValue() != number(at + 8 + n)) {
                return 3;
            }
            char kind = kind(new String(file, at + 4, 4, StandardCharsets.ISO_8859_1));
            int fault = row.endsWith("" + kind) ? 0 : pictureFault();
            row += kind;
            byte[] data = Arrays.copyOfRange(file, at + 8, at + 8 + n);
            at += 12 + n;
            if (fault == 0 && !(mayStand(row, told) && lengthFits(kind, n) && takes(kind, data))) {
                fault = 4;
            }
            return fault;
        }

        private int number(int i) {
            return ByteBuffer.wrap(file).getInt(i);
        }

        private int pictureFault() {
            if (!row.endsWith("I") && !row.endsWith("D")) {
                return 0;
            }
            byte[] raw = unpacked(packed.toByteArray());
            packed.reset();
            return raw == null ? 5 : filled(picture, raw) ? 0 : 6;
        }

        private boolean takes(char kind, byte[] bytes) {
            ByteBuffer data = ByteBuffer.wrap(bytes);
            if ((kind == 'F' || kind == 'D') && data.getInt() != serial++) {
                return false;
            }
            switch (kind) {
                case 'H':
                    reel.width = data.getInt();
                    reel.height = data.getInt();
                    return isSide(reel.width) && isSide(reel.height)
                        && Arrays.equals(bytes, 8, 13, new byte[] {8, 6, 0, 0, 0}, 0, 5);
                case 'A':
                    told = data.getInt();
                    reel.plays = data.getInt();
                    return told >= 1 && told <= 8;
                case 'F':
                    return takesFrame(data.getInt(), data.getInt(), data.getInt(), data.getInt(),
                        bytes[24] & 255, bytes[25] & 255);
                case 'I':
                    if (reel.frames.isEmpty()) {
                        reel.own = new Picture(reel.width, reel.height);
                    }
                    picture = reel.defaultPicture();
                    break;
                case 'D':
                    picture = reel.frames.get(reel.frames.size() - 1);
                    break;
                default:
                    return true;
            }
            packed.write(bytes, data.position(), data.remaining());
            return true;
        }

        private boolean takesFrame(int... facts) {
            if (!fits(reel, facts)) {
                return false;
            }
            reel.frames.add(new Picture(facts));
            return row.indexOf('I') >= 0 || facts[0] == reel.width && facts[1] == reel.height;
        }
    }

    private static char kind(String type) {
        int known = List.of("IHDR", "acTL", "fcTL", "IDAT", "fdAT", "IEND").indexOf(type);
        if (known >= 0) {
            return "HAFIDE".charAt(known);
        }
        return type.matches("[a-z][A-Za-z]{3}") ? 'o' : 'x';
    }

    private static boolean mayStand(String row, int told) {
        Matcher matcher = ORDER.matcher(row);
        long controls = row.chars().filter(kind -> kind == 'F').count();
        return (matcher.matches() || matcher.hitEnd())
            && (row.endsWith("E") ? controls == told : controls <= told);
    }

    private static boolean lengthFits(char kind, int n) {
        return switch (kind) {
            case 'H' -> n == 13;
            case 'A' -> n == 8;
            case 'F' -> n == 26;
            case 'D' -> n >= 4;
            case 'E' -> n == 0;
            default -> true;
        };
    }

    private static boolean isSide(int n) {
        return n >= 1 && n <= 16;
    }

    private static boolean fits(Reel reel, int[] facts) {
        long[] f = Arrays.stream(facts).asLongStream().toArray();
        return f[0] >= 1 && f[1] >= 1 && f[2] >= 0 && f[3] >= 0 && f[0] + f[2] <= reel.width
            && f[1] + f[3] <= reel.height && f[4] >= 0 && f[4] <= 2 && f[5] >= 0 && f[5] <= 1;
    }

    /** By the library, whose packed bytes may begin with other bytes and put out more. */
    private static byte[] unpacked(byte[] packed) {
        if (packed.length < 2 || packed[0] != 120 || (packed[1] & 32) != 0) {
            return null;
        }
        Inflater inflater = new Inflater();
        inflater.setInput(packed);
        byte[] raw = new byte[1101];
        int n = 0;
        try {
            while (!inflater.finished() && !inflater.needsInput() && n < raw.length) {
                n += inflater.inflate(raw, n, raw.length - n);
            }
        } catch (DataFormatException e) {
            n = raw.length;
        }
        boolean isRight = inflater.finished() && inflater.getRemaining() == 0 && n <= 1100;
        inflater.end();
        return isRight ? Arrays.copyOf(raw, n) : null;
    }

    private static boolean filled(Picture picture, byte[] raw) {
        int width = picture.facts[0];
        int height = picture.facts[1];
        if (raw.length != height * (4 * width + 1)) {
            return false;
        }
        // A row and a pixel of zeros lie around the bytes.
        int[][] bytes = new int[height + 1][4 * width + 4];
        for (int y = 1; y <= height; y++) {
            int from = (y - 1) * (4 * width + 1);
            int filter = raw[from];
            if (filter < 0 || filter > 4) {
                return false;
            }
            for (int k = 4; k < 4 * width + 4; k++) {
                int a = bytes[y][k - 4];
                int b = bytes[y - 1][k];
                int c = bytes[y - 1][k - 4];
                int[] guesses = {0, a, b, a + b >> 1, nearest(a, b, c)};
                bytes[y][k] = raw[from + k - 3] + guesses[filter] & 255;
            }
            for (int x = 0; x < width; x++) {
                for (int k = 0; k < 4; k++) {
                    picture.pixels[y - 1][x] = picture.pixels[y - 1][x] << 8
                        | bytes[y][4 * x + 4 + k];
                }
            }
        }
        return true;
    }

    private static int nearest(int a, int b, int c) {
        int best = a;
        for (int other : new int[] {b, c}) {
            if (Math.abs(a + b - c - other) < Math.abs(a + b - c - best)) {
                best = other;
            }
        }
        return best;
    }

    int place() {
        return place;
    }

    int begin(int width, int height, int plays) {
        if (!isSide(width) || !isSide(height) || plays < 0) {
            return OUTSIDE;
        }
        reel = new Reel();
        reel.width = width;
        reel.height = height;
        reel.plays = plays;
        reel.own = new Picture(width, height);
        shown = null;
        return 1;
    }

    int frame(int... facts) {
        if (reel == null) {
            return STATE;
        }
        if (!fits(reel, facts)) {
            return OUTSIDE;
        }
        if (reel.frames.size() == 8) {
            return ROOM;
        }
        reel.frames.add(new Picture(facts));
        shown = null;
        return reel.frames.size();
    }

    private boolean hasFrame(int i) {
        return reel != null && i >= 0 && i < reel.frames.size();
    }

    int paint(int frame, int x, int y, int c) {
        Picture picture = hasFrame(frame) ? reel.frames.get(frame)
            : frame == -1 && reel != null ? reel.own : null;
        if (picture == null) {
            return UNKNOWN;
        }
        if (x < 0 || y < 0 || x >= picture.facts[0] || y >= picture.facts[1]) {
            return OUTSIDE;
        }
        picture.pixels[y][x] = c;
        shown = null;
        return 1;
    }

    int first(boolean is) {
        if (reel == null) {
            return STATE;
        }
        if (is && (reel.frames.isEmpty() || reel.frames.get(0).facts[0] != reel.width
                || reel.frames.get(0).facts[1] != reel.height)) {
            return STATE;
        }
        if (is == (reel.own == null)) {
            return 0;
        }
        reel.own = is ? null : new Picture(reel.width, reel.height);
        shown = null;
        return 1;
    }

    int about(int what, int i) {
        if (reel == null) {
            return UNKNOWN;
        }
        if (what < 0 || what > 10) {
            return OUTSIDE;
        }
        if (what >= 5) {
            return hasFrame(i) ? reel.frames.get(i).facts[what - 5] : UNKNOWN;
        }
        return new int[] {reel.width, reel.height, reel.frames.size(), reel.plays,
            reel.own == null ? 1 : 0}[what];
    }

    int show(int i) {
        if (i == -1 && reel != null) {
            shown = copy(reel.defaultPicture().pixels);
            return 1;
        }
        if (!hasFrame(i)) {
            return UNKNOWN;
        }
        int[][] canvas = new int[reel.height][reel.width];
        for (int k = 0; k <= i; k++) {
            Picture frame = reel.frames.get(k);
            int[][] before = copy(canvas);
            int[] f = frame.facts;
            for (int y = 0; y < f[1]; y++) {
                for (int x = 0; x < f[0]; x++) {
                    canvas[f[3] + y][f[2] + x] = f[5] == 0 ? frame.pixels[y][x]
                        : blended(frame.pixels[y][x], canvas[f[3] + y][f[2] + x]);
                }
            }
            shown = copy(canvas);
            for (int y = f[3]; y < f[3] + f[1] && f[4] != 0; y++) {
                for (int x = f[2]; x < f[2] + f[0]; x++) {
                    canvas[y][x] = f[4] == 1 || k == 0 ? 0 : before[y][x];
                }
            }
        }
        return 1;
    }

    private static int[][] copy(int[][] pixels) {
        return Arrays.stream(pixels).map(int[]::clone).toArray(int[][]::new);
    }

    private static int blended(int pixel, int there) {
        long s = pixel & 255;
        long u = there & 255;
        long v = s * 255 + (255 - s) * u;
        if (s == 0 || s == 255) {
            return s == 0 ? there : pixel;
        }
        int all = 0;
        for (int shift = 24; shift >= 8; shift -= 8) {
            long colour = (pixel >>> shift & 255) * s * 255
                + (there >>> shift & 255) * u * (255 - s);
            all = all << 8 | (int) (colour / v);
        }
        return all << 8 | (int) (v / 255);
    }

    int pixel(int x, int y) {
        if (shown == null || y < 0 || y >= shown.length || x < 0 || x >= shown[0].length) {
            throw new IndexOutOfBoundsException();
        }
        return shown[y][x];
    }

    int write() {
        if (reel == null || reel.frames.isEmpty()) {
            return STATE;
        }
        Made file = new Made().head(reel.width, reel.height)
            .counts(reel.frames.size(), reel.plays);
        int serial = 0;
        if (reel.own == null) {
            file.chunk("fcTL", control(serial++, reel.frames.get(0)));
        }
        file.data(packed(reel.defaultPicture()));
        for (int k = reel.own == null ? 1 : 0; k < reel.frames.size(); k++) {
            file.chunk("fcTL", control(serial++, reel.frames.get(k)));
            file.frameDataOf(serial++, packed(reel.frames.get(k)));
        }
        written = file.end().bytes();
        return written.length;
    }

    private static byte[] control(int serial, Picture picture) {
        int[] f = picture.facts;
        return Made.joined(Made.numbers(serial, f[0], f[1], f[2], f[3], 0x0001000A),
            Made.small(f[4], f[5]));
    }

    private static byte[] packed(Picture picture) {
        byte[] rows = Made.rows(picture.facts[0], picture.facts[1],
            Arrays.stream(picture.pixels).flatMapToInt(Arrays::stream).toArray());
        return new BitRow().plainWith(0, true, rows).end(rows);
    }

    int out(int i) {
        return i >= 0 && i < written.length ? written[i] & 255 : NONE;
    }
}
