import java.util.Arrays;

/** Moving pictures: read from a file of chunks, shown frame by frame, and written again. */
public final class FrameReel {
    public static final int NONE = -1;
    public static final int UNKNOWN = -11, OUTSIDE = -12, STATE = -13, ROOM = -14;

    private static final int TAPE_ROOM = 8000;
    private static final int RAW_ROOM = 1100;
    private static final int FRAME_ROOM = 8;
    private static final int SIDE = 16;
    // Eight frames of a full canvas and a default picture of its own.
    private static final int WRITTEN_ROOM = 9968;

    private static final int SIGNATURE_HIGH = 0x89504E47, SIGNATURE_LOW = 0x0D0A1A0A;
    private static final int SIGNATURE_SIZE = 8;
    private static final int CHUNK_FRAME = 12;
    private static final int IHDR = 0x49484452, ACTL = 0x6163544C, FCTL = 0x6663544C;
    private static final int IDAT = 0x49444154, FDAT = 0x66644154, IEND = 0x49454E44;
    private static final int HEAD_SIZE = 13, ACTL_SIZE = 8, FCTL_SIZE = 26, SERIAL_SIZE = 4;

    private static final int BAD_SIGNATURE = 1, BAD_END = 2, BAD_SUM = 3;
    private static final int BAD_CHUNK = 4, BAD_PACKED = 5, BAD_ROWS = 6;

    private final Bytes tape;
    private final Reader reader;
    private final Writer writer;
    private final Screen screen;
    private Reel reel;
    private int faultPlace;

    public FrameReel() {
        Sums sums = new Sums();
        tape = new Bytes(TAPE_ROOM);
        reader = new Reader(tape, sums);
        writer = new Writer(sums);
        screen = new Screen();
        reel = new Reel();
        faultPlace = NONE;
    }

    public int type(int w, int n) {
        if (n < 1 || n > 4) {
            return OUTSIDE;
        }
        if (!tape.fits(n)) {
            return ROOM;
        }
        for (int k = n - 1; k >= 0; k--) {
            tape.add(w >>> (8 * k));
        }
        return tape.size;
    }

    public int words(int a, int b, int c, int d) {
        if (!tape.fits(16)) {
            return ROOM;
        }
        tape.addNumber(a);
        tape.addNumber(b);
        tape.addNumber(c);
        tape.addNumber(d);
        return tape.size;
    }

    public int read() {
        int fault = reader.run();
        tape.clear();
        if (fault != 0) {
            faultPlace = reader.faultPlace;
            return -fault;
        }
        faultPlace = NONE;
        reel = reader.exchange(reel);
        screen.forget();
        return reel.count;
    }

    public int place() {
        return faultPlace;
    }

    public int begin(int width, int height, int plays) {
        if (width < 1 || width > SIDE || height < 1 || height > SIDE || plays < 0) {
            return OUTSIDE;
        }
        reel.start(width, height);
        reel.plays = plays;
        reel.own.clear();
        screen.forget();
        return 1;
    }

    public int frame(int width, int height, int x, int y, int dispose, int blend) {
        if (!reel.there) {
            return STATE;
        }
        if (!reel.allows(width, height, x, y, dispose, blend)) {
            return OUTSIDE;
        }
        if (reel.count >= FRAME_ROOM) {
            return ROOM;
        }
        reel.add(width, height, x, y, dispose, blend);
        reel.frames[reel.count - 1].clear();
        screen.forget();
        return reel.count;
    }

    public int paint(int frame, int x, int y, int c) {
        Picture picture = paintable(frame);
        if (picture == null) {
            return UNKNOWN;
        }
        if (x < 0 || x >= picture.width || y < 0 || y >= picture.height) {
            return OUTSIDE;
        }
        picture.pixels[y * picture.width + x] = c;
        screen.forget();
        return 1;
    }

    private Picture paintable(int frame) {
        if (reel.hasFrame(frame)) {
            return reel.frames[frame];
        }
        return frame == NONE && reel.there && !reel.firstIsDefault ? reel.own : null;
    }

    public int first(boolean is) {
        if (!reel.there || is && !reel.firstIsCanvas()) {
            return STATE;
        }
        if (reel.firstIsDefault == is) {
            return 0;
        }
        reel.firstIsDefault = is;
        reel.own.clear();
        screen.forget();
        return 1;
    }

    public int about(int what, int i) {
        if (!reel.there) {
            return UNKNOWN;
        }
        if (what < 0 || what > 10) {
            return OUTSIDE;
        }
        if (what <= 4) {
            return reel.fact(what);
        }
        return reel.hasFrame(i) ? reel.frames[i].fact(what) : UNKNOWN;
    }

    public int show(int i) {
        if (reel.hasFrame(i)) {
            screen.compose(reel, i);
            return 1;
        }
        if (i == NONE && reel.there) {
            screen.copy(reel.defaultPicture());
            return 1;
        }
        return UNKNOWN;
    }

    public int pixel(int x, int y) throws IndexOutOfBoundsException {
        if (!screen.has(x, y)) {
            throw new IndexOutOfBoundsException();
        }
        return screen.pixels[y * screen.width + x];
    }

    public int write() {
        if (!reel.there || reel.count == 0) {
            return STATE;
        }
        writer.run(reel);
        return writer.file.size;
    }

    public int out(int i) {
        return writer.file.at(i);
    }

    /** A row of bytes that grows up to its room. */
    private static final class Bytes {
        private final byte[] cells;
        private int size;

        Bytes(int room) {
            cells = new byte[room];
        }

        void clear() {
            size = 0;
        }

        boolean fits(int n) {
            return n <= cells.length - size;
        }

        void add(int b) {
            if (size < cells.length) {
                cells[size] = (byte) b;
                size++;
            }
        }

        void addNumber(int n) {
            add(n >>> 24);
            add(n >>> 16);
            add(n >>> 8);
            add(n);
        }

        void addPart(Bytes other, int from, int to) {
            for (int k = from; k < to; k++) {
                add(other.at(k));
            }
        }

        int at(int i) {
            return i >= 0 && i < size ? cells[i] & 255 : NONE;
        }

        int number(int i) {
            if (i < 0 || i > size - 4) {
                return NONE;
            }
            return (cells[i] & 255) << 24 | (cells[i + 1] & 255) << 16
                | (cells[i + 2] & 255) << 8 | cells[i + 3] & 255;
        }
    }

    /** The sums of chunks and of packed bytes. */
    private static final class Sums {
        private static final int POLYNOMIAL = 0xEDB88320;
        private static final int MODULUS = 65521;

        private final int[] table = new int[256];

        Sums() {
            for (int k = 0; k < 256; k++) {
                int t = k;
                for (int turn = 0; turn < 8; turn++) {
                    t = (t & 1) == 0 ? t >>> 1 : t >>> 1 ^ POLYNOMIAL;
                }
                table[k] = t;
            }
        }

        int ofChunk(Bytes bytes, int from, int to) {
            int x = -1;
            for (int k = from; k < to; k++) {
                x = x >>> 8 ^ table[(x ^ bytes.at(k)) & 255];
            }
            return ~x;
        }

        static int ofRaw(Bytes bytes, int from, int to) {
            int s1 = 1;
            int s2 = 0;
            for (int k = from; k < to; k++) {
                s1 = (s1 + bytes.at(k)) % MODULUS;
                s2 = (s2 + s1) % MODULUS;
            }
            return s2 << 16 | s1;
        }
    }

    /** Pixels in a region of the canvas, with what is done with them. */
    private static final class Picture {
        private final int[] pixels = new int[SIDE * SIDE];
        private int width;
        private int height;
        private int x;
        private int y;
        private int dispose;
        private int blend;

        void clear() {
            Arrays.fill(pixels, 0);
        }

        int fact(int what) {
            switch (what) {
                case 5:
                    return width;
                case 6:
                    return height;
                case 7:
                    return x;
                case 8:
                    return y;
                case 9:
                    return dispose;
                default:
                    return blend;
            }
        }
    }

    /** A canvas, its frames, and a default picture. */
    private static final class Reel {
        private final Picture[] frames = new Picture[FRAME_ROOM];
        private final Picture own = new Picture();
        private boolean there;
        private boolean firstIsDefault;
        private int width;
        private int height;
        private int plays;
        private int count;

        Reel() {
            for (int k = 0; k < FRAME_ROOM; k++) {
                frames[k] = new Picture();
            }
        }

        /** Leaves plays and the default picture's pixels as they are: reading fills them anyway. */
        void start(int newWidth, int newHeight) {
            there = true;
            firstIsDefault = false;
            width = newWidth;
            height = newHeight;
            own.width = newWidth;
            own.height = newHeight;
            count = 0;
        }

        boolean allows(int w, int h, int x, int y, int dispose, int blend) {
            // No sums of unchecked numbers: they could wrap around.
            return w >= 1 && w <= width && x >= 0 && x <= width - w
                && h >= 1 && h <= height && y >= 0 && y <= height - h
                && dispose >= 0 && dispose <= 2 && blend >= 0 && blend <= 1;
        }

        void add(int w, int h, int x, int y, int dispose, int blend) {
            if (count >= FRAME_ROOM) {
                return;
            }
            Picture picture = frames[count];
            picture.width = w;
            picture.height = h;
            picture.x = x;
            picture.y = y;
            picture.dispose = dispose;
            picture.blend = blend;
            count++;
        }

        boolean hasFrame(int i) {
            return there && i >= 0 && i < count;
        }

        boolean firstIsCanvas() {
            return count > 0 && frames[0].width == width && frames[0].height == height;
        }

        Picture defaultPicture() {
            return firstIsDefault ? frames[0] : own;
        }

        int fact(int what) {
            switch (what) {
                case 0:
                    return width;
                case 1:
                    return height;
                case 2:
                    return count;
                case 3:
                    return plays;
                default:
                    return firstIsDefault ? 1 : 0;
            }
        }
    }

    /** Takes bits and symbols from packed bytes. */
    private static final class Bits {
        private final Bytes source;
        private int at;

        Bits(Bytes source) {
            this.source = source;
        }

        /** A number of n bits, NONE when there are fewer. */
        int take(int n) {
            if (n > source.size * 8 - at) {
                return NONE;
            }
            int value = 0;
            for (int k = 0; k < n; k++) {
                value |= (source.cells[at >> 3] >> (at & 7) & 1) << k;
                at++;
            }
            return value;
        }

        /** The symbol whose code comes next, NONE when no code does. */
        int symbol(Codes codes) {
            int end = source.size * 8;
            int code = 0;
            int lowest = 0;
            int index = 0;
            for (int length = 1; length <= Codes.LONGEST && at < end; length++) {
                code += source.cells[at >> 3] >> (at & 7) & 1;
                at++;
                int n = codes.counts[length];
                if (code - lowest < n) {
                    return codes.symbols[index + code - lowest];
                }
                index += n;
                lowest = (lowest + n) * 2;
                code *= 2;
            }
            return NONE;
        }

        void skipToByte() {
            at = (at + 7) / 8 * 8;
        }
    }

    /** Codes of symbols, told by their lengths. */
    private static final class Codes {
        private static final int LONGEST = 15;
        private static final int MOST = 288;

        private final int[] counts = new int[LONGEST + 1];
        private final int[] starts = new int[LONGEST + 2];
        // The symbols that have codes, in the order of their codes.
        private final int[] symbols = new int[MOST];
        private int used;

        /** How many codes of the greatest length are left over; NONE when there are too many. */
        int build(int[] lengths, int from, int n) {
            Arrays.fill(counts, 0);
            for (int k = 0; k < n; k++) {
                counts[lengths[from + k]]++;
            }
            used = n - counts[0];
            starts[1] = 0;
            int left = 1;
            for (int length = 1; length <= LONGEST; length++) {
                left = left * 2 - counts[length];
                if (left < 0) {
                    return NONE;
                }
                starts[length + 1] = starts[length] + counts[length];
            }
            for (int k = 0; k < n; k++) {
                int length = lengths[from + k];
                if (length != 0) {
                    symbols[starts[length]] = k;
                    starts[length]++;
                }
            }
            return left;
        }

        boolean isNoneOrOneBit() {
            return used == 0 || used == 1 && counts[1] == 1;
        }
    }

    /** Turns packed bytes into the bytes of rows. */
    private static final class Unpacker {
        private static final int METHOD = 120;
        private static final int END = 256;
        private static final int[] TELLER_ORDER = {
            16, 17, 18, 0, 8, 7, 9, 6, 10, 5, 11, 4, 12, 3, 13, 2, 14, 1, 15};
        // Of a length that stands once, and of 16, 17, 18.
        private static final int[] REPEAT_BASES = {1, 3, 3, 11};
        private static final int[] REPEAT_BITS = {0, 2, 3, 7};
        private static final int[] LENGTH_BASES = {
            3, 4, 5, 6, 7, 8, 9, 10, 11, 13, 15, 17, 19, 23, 27, 31,
            35, 43, 51, 59, 67, 83, 99, 115, 131, 163, 195, 227, 258};
        private static final int[] LENGTH_BITS = {
            0, 0, 0, 0, 0, 0, 0, 0, 1, 1, 1, 1, 2, 2, 2, 2,
            3, 3, 3, 3, 4, 4, 4, 4, 5, 5, 5, 5, 0};
        private static final int[] DISTANCE_BASES = {
            1, 2, 3, 4, 5, 7, 9, 13, 17, 25, 33, 49, 65, 97, 129, 193, 257, 385, 513, 769,
            1025, 1537, 2049, 3073, 4097, 6145, 8193, 12289, 16385, 24577};
        private static final int[] DISTANCE_BITS = {
            0, 0, 0, 0, 1, 1, 2, 2, 3, 3, 4, 4, 5, 5, 6, 6, 7, 7, 8, 8,
            9, 9, 10, 10, 11, 11, 12, 12, 13, 13};

        private final Bytes packed = new Bytes(TAPE_ROOM);
        private final Bytes raw = new Bytes(RAW_ROOM);
        private final Bits bits = new Bits(packed);
        private final Codes tellers = new Codes();
        private final Codes symbols = new Codes();
        private final Codes distances = new Codes();
        private final int[] lengths = new int[Codes.MOST + 32];
        private int symbolCount;
        private int distanceCount;

        /** Whether the packed bytes are as they should be; raw has then what they put out. */
        boolean unpack() {
            raw.clear();
            if (!startsAsPacked()) {
                return false;
            }
            bits.at = 16;
            boolean isLast = false;
            int most = packed.size * 8;
            for (int k = 0; k < most && !isLast; k++) {
                int head = bits.take(3);
                if (head < 0) {
                    return false;
                }
                isLast = (head & 1) == 1;
                int kind = head >> 1;
                if (!(kind == 0 ? copyPlain() : hasCodes(kind) && unpackCoded())) {
                    return false;
                }
            }
            return isLast && endsWithSum();
        }

        private boolean startsAsPacked() {
            int check = packed.at(1);
            return packed.at(0) == METHOD && check >= 0 && (check & 32) == 0
                && (METHOD * 256 + check) % 31 == 0;
        }

        private boolean hasCodes(int kind) {
            if (kind == 1) {
                fixCodes();
                return true;
            }
            return kind == 2 && takeTellers() && takeLengths() && buildCodes();
        }

        private boolean endsWithSum() {
            bits.skipToByte();
            int from = bits.at / 8;
            return packed.size - from == 4
                && packed.number(from) == Sums.ofRaw(raw, 0, raw.size);
        }

        private boolean copyPlain() {
            bits.skipToByte();
            int n = bits.take(16);
            int turned = bits.take(16);
            if (n < 0 || turned < 0 || (n ^ turned) != 65535) {
                return false;
            }
            int from = bits.at / 8;
            if (n > packed.size - from || !raw.fits(n)) {
                return false;
            }
            raw.addPart(packed, from, from + n);
            bits.at += n * 8;
            return true;
        }

        private void fixCodes() {
            for (int k = 0; k < Codes.MOST; k++) {
                lengths[k] = k < 144 ? 8 : k < 256 ? 9 : k < 280 ? 7 : 8;
            }
            for (int k = 0; k < 32; k++) {
                lengths[Codes.MOST + k] = 5;
            }
            symbols.build(lengths, 0, Codes.MOST);
            distances.build(lengths, Codes.MOST, 32);
        }

        private boolean takeTellers() {
            int head = bits.take(14);
            symbolCount = (head & 31) + 257;
            distanceCount = (head >> 5 & 31) + 1;
            if (head < 0 || symbolCount > 286 || distanceCount > 30) {
                return false;
            }
            int n = (head >> 10) + 4;
            Arrays.fill(lengths, 0);
            for (int k = 0; k < n; k++) {
                int length = bits.take(3);
                if (length < 0) {
                    return false;
                }
                lengths[TELLER_ORDER[k]] = length;
            }
            return tellers.build(lengths, 0, TELLER_ORDER.length) == 0;
        }

        private boolean takeLengths() {
            int all = symbolCount + distanceCount;
            int had = 0;
            for (int k = 0; k < all && had < all; k++) {
                int teller = bits.symbol(tellers);
                if (teller < 0 || teller == 16 && had == 0) {
                    return false;
                }
                int repeat = teller < 16 ? 0 : teller - 15;
                int more = bits.take(REPEAT_BITS[repeat]);
                int times = REPEAT_BASES[repeat] + more;
                if (more < 0 || times > all - had) {
                    return false;
                }
                int length = teller < 16 ? teller : teller == 16 ? lengths[had - 1] : 0;
                for (int j = 0; j < times; j++) {
                    lengths[had] = length;
                    had++;
                }
            }
            return true;
        }

        private boolean buildCodes() {
            if (lengths[END] == 0 || symbols.build(lengths, 0, symbolCount) != 0) {
                return false;
            }
            int left = distances.build(lengths, symbolCount, distanceCount);
            return left == 0 || left > 0 && distances.isNoneOrOneBit();
        }

        private boolean unpackCoded() {
            // Each symbol but the end puts out a byte at least.
            for (int k = 0; k <= RAW_ROOM; k++) {
                int symbol = bits.symbol(symbols);
                if (symbol == END) {
                    return true;
                }
                if (symbol < 0 || !raw.fits(1)) {
                    return false;
                }
                if (symbol < END) {
                    raw.add(symbol);
                } else if (!copyMatch(symbol - END - 1)) {
                    return false;
                }
            }
            return false;
        }

        private boolean copyMatch(int kind) {
            if (kind >= LENGTH_BASES.length) {
                return false;
            }
            int moreLength = bits.take(LENGTH_BITS[kind]);
            int far = bits.symbol(distances);
            if (moreLength < 0 || far < 0 || far >= DISTANCE_BASES.length) {
                return false;
            }
            int moreDistance = bits.take(DISTANCE_BITS[far]);
            int length = LENGTH_BASES[kind] + moreLength;
            int distance = DISTANCE_BASES[far] + moreDistance;
            if (moreDistance < 0 || distance > raw.size || !raw.fits(length)) {
                return false;
            }
            for (int k = 0; k < length; k++) {
                raw.add(raw.at(raw.size - distance));
            }
            return true;
        }
    }

    /** Turns the bytes of rows with filters into pixels. */
    private static final class Rows {
        private Rows() {
        }

        /** Whether the rows are as they should be; the picture has then their pixels. */
        static boolean fill(Picture picture, Bytes raw) {
            int step = 1 + 4 * picture.width;
            if (raw.size != step * picture.height) {
                return false;
            }
            for (int y = 0; y < picture.height; y++) {
                int filter = raw.at(y * step);
                if (filter < 0 || filter > 4) {
                    return false;
                }
                unfilter(raw, y, step, filter);
                for (int x = 0; x < picture.width; x++) {
                    picture.pixels[y * picture.width + x] = raw.number(y * step + 1 + 4 * x);
                }
            }
            return true;
        }

        private static void unfilter(Bytes raw, int y, int step, int filter) {
            int from = y * step + 1;
            for (int k = 0; k < step - 1; k++) {
                int i = from + k;
                int a = k >= 4 ? raw.at(i - 4) : 0;
                int b = y > 0 ? raw.at(i - step) : 0;
                int c = k >= 4 && y > 0 ? raw.at(i - step - 4) : 0;
                raw.cells[i] = (byte) (raw.at(i) + guess(filter, a, b, c));
            }
        }

        private static int guess(int filter, int a, int b, int c) {
            switch (filter) {
                case 0:
                    return 0;
                case 1:
                    return a;
                case 2:
                    return b;
                case 3:
                    return (a + b) / 2;
                default:
                    return nearest(a, b, c);
            }
        }

        private static int nearest(int a, int b, int c) {
            // How far a + b - c lies from each of them.
            int toA = Math.abs(b - c);
            int toB = Math.abs(a - c);
            int toC = Math.abs(a + b - c - c);
            if (toA <= toB && toA <= toC) {
                return a;
            }
            return toB <= toC ? b : c;
        }
    }

    /** Reads a tape as a file, chunk by chunk, up to its first fault. */
    private static final class Reader {
        private final Bytes tape;
        private final Sums sums;
        private final Unpacker unpacker = new Unpacker();
        // Not the reel in use: that one stays when there is a fault.
        private Reel reel = new Reel();
        private Picture picture = reel.own;
        private int faultPlace;
        private int at;
        private int before;
        private int serial;
        private int told;
        private boolean hasData;

        Reader(Bytes tape, Sums sums) {
            this.tape = tape;
            this.sums = sums;
        }

        /** Hands out the reel that was read, and takes one to fill the next time. */
        Reel exchange(Reel old) {
            Reel filled = reel;
            reel = old;
            return filled;
        }

        /** The fault, 0 for none. */
        int run() {
            before = 0;
            serial = 0;
            told = 0;
            hasData = false;
            if (!startsAsFile()) {
                return BAD_SIGNATURE;
            }
            at = SIGNATURE_SIZE;
            for (int k = 0; k < TAPE_ROOM && before != IEND; k++) {
                int fault = chunkFault();
                if (fault != 0) {
                    return fault;
                }
            }
            faultPlace = at;
            return at < tape.size ? BAD_CHUNK : 0;
        }

        private boolean startsAsFile() {
            for (int k = 0; k < SIGNATURE_SIZE; k++) {
                int half = k < 4 ? SIGNATURE_HIGH : SIGNATURE_LOW;
                if (tape.at(k) != (half >>> (24 - k % 4 * 8) & 255)) {
                    faultPlace = k;
                    return false;
                }
            }
            return true;
        }

        private int chunkFault() {
            int room = tape.size - at - CHUNK_FRAME;
            int n = tape.number(at);
            if (room < 0 || n < 0 || n > room) {
                faultPlace = tape.size;
                return BAD_END;
            }
            faultPlace = at + 4;
            int end = at + 8 + n;
            if (sums.ofChunk(tape, at + 4, end) != tape.number(end)) {
                return BAD_SUM;
            }
            int type = tape.number(at + 4);
            if (type != before && (before == IDAT || before == FDAT)) {
                if (!unpacker.unpack()) {
                    return BAD_PACKED;
                }
                if (!Rows.fill(picture, unpacker.raw)) {
                    return BAD_ROWS;
                }
            }
            if (!takesChunk(type, n)) {
                return BAD_CHUNK;
            }
            before = type;
            at = end + 4;
            return 0;
        }

        private boolean takesChunk(int type, int n) {
            if (before == 0) {
                return type == IHDR && n == HEAD_SIZE && takesHead(at + 8);
            }
            switch (type) {
                case IHDR:
                    return false;
                case ACTL:
                    return n == ACTL_SIZE && takesCounts(at + 8);
                case FCTL:
                    return n == FCTL_SIZE && takesControl(at + 8);
                case IDAT:
                    return takesDefaultData(n);
                case FDAT:
                    return n >= SERIAL_SIZE && takesFrameData(n);
                case IEND:
                    return n == 0 && hasData && before != FCTL && reel.count == told;
                default:
                    return before != FCTL && mayBeLeftOut(at + 4);
            }
        }

        private boolean takesHead(int from) {
            int width = tape.number(from);
            int height = tape.number(from + 4);
            if (width < 1 || width > SIDE || height < 1 || height > SIDE) {
                return false;
            }
            reel.start(width, height);
            return tape.at(from + 8) == 8 && tape.at(from + 9) == 6 && tape.at(from + 10) == 0
                && tape.at(from + 11) == 0 && tape.at(from + 12) == 0;
        }

        private boolean takesCounts(int from) {
            int frames = tape.number(from);
            if (told != 0 || hasData || frames < 1 || frames > FRAME_ROOM) {
                return false;
            }
            told = frames;
            reel.plays = tape.number(from + 4);
            return true;
        }

        private boolean takesControl(int from) {
            if (before == FCTL || reel.count >= told || !takesSerial(from)) {
                return false;
            }
            int width = tape.number(from + 4);
            int height = tape.number(from + 8);
            int x = tape.number(from + 12);
            int y = tape.number(from + 16);
            int dispose = tape.at(from + 24);
            int blend = tape.at(from + 25);
            if (!reel.allows(width, height, x, y, dispose, blend)) {
                return false;
            }
            reel.add(width, height, x, y, dispose, blend);
            if (!hasData) {
                reel.firstIsDefault = true;
                return reel.firstIsCanvas();
            }
            return true;
        }

        private boolean takesSerial(int from) {
            boolean isNext = tape.number(from) == serial;
            serial++;
            return isNext;
        }

        private boolean takesDefaultData(int n) {
            if (told == 0 || hasData && before != IDAT) {
                return false;
            }
            if (!hasData) {
                hasData = true;
                picture = reel.defaultPicture();
                unpacker.packed.clear();
            }
            unpacker.packed.addPart(tape, at + 8, at + 8 + n);
            return true;
        }

        private boolean takesFrameData(int n) {
            if (!hasData || before != FCTL && before != FDAT || !takesSerial(at + 8)) {
                return false;
            }
            if (before == FCTL) {
                picture = reel.frames[reel.count - 1];
                unpacker.packed.clear();
            }
            unpacker.packed.addPart(tape, at + 8 + SERIAL_SIZE, at + 8 + n);
            return true;
        }

        private boolean mayBeLeftOut(int from) {
            boolean fits = tape.at(from) >= 'a';
            for (int k = 0; k < 4; k++) {
                int b = tape.at(from + k);
                fits = fits && (b >= 'A' && b <= 'Z' || b >= 'a' && b <= 'z');
            }
            return fits;
        }
    }

    /** What is shown of a reel. */
    private static final class Screen {
        private final int[] pixels = new int[SIDE * SIDE];
        private final int[] saved = new int[SIDE * SIDE];
        // 0 when nothing is shown.
        private int width;
        private int height;

        void forget() {
            width = 0;
            height = 0;
        }

        boolean has(int x, int y) {
            return x >= 0 && x < width && y >= 0 && y < height;
        }

        void copy(Picture picture) {
            width = picture.width;
            height = picture.height;
            System.arraycopy(picture.pixels, 0, pixels, 0, SIDE * SIDE);
        }

        void compose(Reel reel, int last) {
            width = reel.width;
            height = reel.height;
            Arrays.fill(pixels, 0);
            for (int k = 0; k < last && k < FRAME_ROOM; k++) {
                Picture frame = reel.frames[k];
                System.arraycopy(pixels, 0, saved, 0, SIDE * SIDE);
                draw(frame);
                dispose(frame);
            }
            draw(reel.frames[last]);
        }

        private void draw(Picture frame) {
            for (int y = 0; y < frame.height; y++) {
                for (int x = 0; x < frame.width; x++) {
                    int i = (frame.y + y) * width + frame.x + x;
                    int pixel = frame.pixels[y * frame.width + x];
                    pixels[i] = frame.blend == 0 ? pixel : blended(pixel, pixels[i]);
                }
            }
        }

        private void dispose(Picture frame) {
            if (frame.dispose == 2) {
                System.arraycopy(saved, 0, pixels, 0, SIDE * SIDE);
            } else if (frame.dispose == 1) {
                for (int y = 0; y < frame.height; y++) {
                    int from = (frame.y + y) * width + frame.x;
                    for (int x = 0; x < frame.width; x++) {
                        pixels[from + x] = 0;
                    }
                }
            }
        }

        private static int blended(int over, int under) {
            int s = over & 255;
            if (s == 0 || s == 255) {
                return s == 0 ? under : over;
            }
            int u = under & 255;
            int v = s * 255 + (255 - s) * u;
            int mixed = v / 255;
            for (int shift = 8; shift <= 24; shift += 8) {
                int upper = (over >>> shift & 255) * s * 255;
                int lower = (under >>> shift & 255) * u * (255 - s);
                mixed |= (upper + lower) / v << shift;
            }
            return mixed;
        }
    }

    /** Writes a reel as a file. */
    private static final class Writer {
        private static final int PACKED_FRAME = 11;

        private final Bytes file = new Bytes(WRITTEN_ROOM);
        private final Sums sums;
        private int typeAt;
        private int serial;

        Writer(Sums sums) {
            this.sums = sums;
        }

        void run(Reel reel) {
            file.clear();
            serial = 0;
            file.addNumber(SIGNATURE_HIGH);
            file.addNumber(SIGNATURE_LOW);
            addHead(reel);
            openChunk(ACTL_SIZE, ACTL);
            file.addNumber(reel.count);
            file.addNumber(reel.plays);
            closeChunk();
            if (reel.firstIsDefault) {
                addControl(reel.frames[0]);
            }
            addDefaultData(reel.defaultPicture());
            for (int k = reel.firstIsDefault ? 1 : 0; k < reel.count && k < FRAME_ROOM; k++) {
                addControl(reel.frames[k]);
                addFrameData(reel.frames[k]);
            }
            openChunk(0, IEND);
            closeChunk();
        }

        private void openChunk(int n, int type) {
            file.addNumber(n);
            typeAt = file.size;
            file.addNumber(type);
        }

        private void closeChunk() {
            file.addNumber(sums.ofChunk(file, typeAt, file.size));
        }

        private void addHead(Reel reel) {
            openChunk(HEAD_SIZE, IHDR);
            file.addNumber(reel.width);
            file.addNumber(reel.height);
            file.addNumber(8 << 24 | 6 << 16);
            file.add(0);
            closeChunk();
        }

        private void addSerial() {
            file.addNumber(serial);
            serial++;
        }

        private void addControl(Picture frame) {
            openChunk(FCTL_SIZE, FCTL);
            addSerial();
            file.addNumber(frame.width);
            file.addNumber(frame.height);
            file.addNumber(frame.x);
            file.addNumber(frame.y);
            file.addNumber(1 << 16 | 10);
            file.add(frame.dispose);
            file.add(frame.blend);
            closeChunk();
        }

        private void addDefaultData(Picture picture) {
            openChunk(PACKED_FRAME + rawSize(picture), IDAT);
            addPacked(picture);
            closeChunk();
        }

        private void addFrameData(Picture picture) {
            openChunk(SERIAL_SIZE + PACKED_FRAME + rawSize(picture), FDAT);
            addSerial();
            addPacked(picture);
            closeChunk();
        }

        private static int rawSize(Picture picture) {
            return picture.height * (1 + 4 * picture.width);
        }

        private void addPacked(Picture picture) {
            int n = rawSize(picture);
            file.add(Unpacker.METHOD);
            file.add(1);
            file.add(1);
            file.add(n);
            file.add(n >>> 8);
            file.add(~n);
            file.add(~n >>> 8);
            int from = file.size;
            for (int y = 0; y < picture.height; y++) {
                file.add(0);
                for (int x = 0; x < picture.width; x++) {
                    file.addNumber(picture.pixels[y * picture.width + x]);
                }
            }
            file.addNumber(Sums.ofRaw(file, from, file.size));
        }
    }
}
