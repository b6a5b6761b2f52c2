import java.nio.ByteBuffer;
import java.util.ArrayList;
import java.util.Arrays;
import java.util.List;
import java.util.Random;

/** All promises: runs of calls with and without sense, each answer against the model's. */
final class ModelTest {
    private static final Due due = new Due("ModelTest");
    private static final int[] ODD = {Integer.MIN_VALUE, -256, -17, -2, -1, 0, 1, 2, 3, 5, 8, 9,
        10, 11, 15, 16, 17, 255, 256, 8000, 65536, Integer.MAX_VALUE};
    private static final String[] TYPES = {"IHDR", "acTL", "fcTL", "IDAT", "fdAT", "IEND", "teXt",
        "TeXt", "te_t"};
    private static final int CALLS = 512;

    private final Random random;
    private final FrameReel reel = new FrameReel();
    private final Model model = new Model();
    private int calls = 0;

    private ModelTest(int seed) {
        random = new Random(seed);
    }

    public static void main(String[] args) {
        int[] answers = new int[7];
        for (int seed = 0; seed < 1500; seed++) {
            new ModelTest(seed).run(answers);
        }
        for (int fault = 0; fault <= 6; fault++) {
            due.is("readings that end with " + fault + " are many", answers[fault] > 50 ? 1 : 0, 1);
        }
        due.end();
    }

    private void run(int[] answers) {
        while (calls < CALLS - 80) {
            if (random.nextInt(12) == 0) {
                int answer = readFile();
                answers[answer < 0 ? -answer : 0]++;
            } else {
                call(random.nextInt(13));
            }
        }
    }

    private void same(String call, int got, int want) {
        calls++;
        due.is(call + " as call " + calls, got, want);
    }

    /** Often a small number, sometimes one at an edge or far from all of them. */
    private int any() {
        return random.nextInt(6) == 0 ? ODD[random.nextInt(ODD.length)] : random.nextInt(5) - 1;
    }

    private int side() {
        return random.nextInt(8) == 0 ? any() : 1 + random.nextInt(4);
    }

    private void call(int kind) {
        int a = any();
        int b = any();
        int c = any();
        int d = random.nextInt(3) == 0 ? random.nextInt() | 255 : random.nextInt();
        switch (kind) {
            case 0 -> same("type", reel.type(d, a), model.type(d, a));
            case 1 -> same("words", reel.words(a, b, c, d), model.words(a, b, c, d));
            case 2 -> {
                same("read", reel.read(), model.read());
                same("place", reel.place(), model.place());
            }
            case 3 -> {
                int width = side();
                int height = side();
                if (random.nextInt(3) == 0) {
                    same("begin", reel.begin(width, height, b), model.begin(width, height, b));
                }
            }
            case 4, 5 -> {
                int[] f = {side(), side(), random.nextInt(3) == 0 ? a : 0,
                    random.nextInt(3) == 0 ? b : 0, random.nextInt(4) == 0 ? c : 1,
                    random.nextInt(4) == 0 ? any() : 1};
                same("frame", reel.frame(f[0], f[1], f[2], f[3], f[4], f[5]), model.frame(f));
            }
            case 6, 7 -> {
                for (int k = 0; k < 6; k++) {
                    int x = any();
                    int y = any();
                    same("paint", reel.paint(a, x, y, d), model.paint(a, x, y, d));
                }
            }
            case 8 -> {
                boolean is = random.nextBoolean();
                same("first", reel.first(is), model.first(is));
            }
            case 9 -> {
                int what = random.nextInt(8) == 0 ? any() : random.nextInt(13) - 1;
                same("about " + what, reel.about(what, a), model.about(what, a));
            }
            case 10, 11 -> {
                same("show", reel.show(a), model.show(a));
                for (int k = 0; k < 6; k++) {
                    pixel(any(), any());
                }
            }
            default -> write();
        }
    }

    private void pixel(int x, int y) {
        calls++;
        int want;
        try {
            want = model.pixel(x, y);
        } catch (IndexOutOfBoundsException e) {
            due.noPixel("as call " + calls, reel, x, y);
            return;
        }
        due.pixel("as call " + calls, reel, x, y, want);
    }

    private void write() {
        int size = model.write();
        same("write", reel.write(), size);
        for (int k = 0; k < 8; k++) {
            int i = random.nextInt(4) == 0 ? any() : random.nextInt(Math.max(1, size + 5));
            same("out " + i, reel.out(i), model.out(i));
        }
    }

    /** Types a file that is right but for some chance, reads it, and looks at some of it. */
    private int readFile() {
        byte[] file = file();
        int at = 0;
        for (; at + 16 <= file.length && calls < CALLS - 10; at += 16) {
            ByteBuffer words = ByteBuffer.wrap(file, at, 16);
            int a = words.getInt();
            int b = words.getInt();
            int c = words.getInt();
            int d = words.getInt();
            same("words", reel.words(a, b, c, d), model.words(a, b, c, d));
        }
        for (; at < file.length && calls < CALLS - 10; at++) {
            same("type", reel.type(file[at], 1), model.type(file[at], 1));
        }
        int answer = model.read();
        same("read", reel.read(), answer);
        same("place", reel.place(), model.place());
        return answer;
    }

    private record Chunk(String type, byte[] data) {
    }

    private byte[] file() {
        int width = 1 + random.nextInt(4);
        int height = 1 + random.nextInt(4);
        int count = 1 + random.nextInt(3);
        List<Chunk> chunks = new ArrayList<>();
        int last = random.nextInt(20) == 0 ? random.nextInt(3) : 0;
        chunks.add(new Chunk("IHDR", Made.headData(odd(width), odd(height), 8, 6, last, 0, 0)));
        other(chunks);
        chunks.add(new Chunk("acTL", Made.numbers(odd(count), random.nextInt())));
        other(chunks);
        boolean firstIsDefault = random.nextBoolean();
        int serial = 0;
        if (firstIsDefault) {
            chunks.add(control(serial++, width, height, 0, 0));
        }
        for (byte[] part : split(picture(width, height))) {
            chunks.add(new Chunk("IDAT", part));
        }
        for (int k = firstIsDefault ? 1 : 0; k < count; k++) {
            other(chunks);
            int w = 1 + random.nextInt(width);
            int h = 1 + random.nextInt(height);
            chunks.add(control(serial++, w, h, random.nextInt(width - w + 1),
                random.nextInt(height - h + 1)));
            for (byte[] part : split(picture(w, h))) {
                chunks.add(new Chunk("fdAT", Made.joined(Made.numbers(odd(serial++)), part)));
            }
        }
        other(chunks);
        chunks.add(new Chunk("IEND", new byte[0]));
        return written(chunks);
    }

    private int odd(int n) {
        return random.nextInt(60) == 0 ? any() : n;
    }

    private void other(List<Chunk> chunks) {
        if (random.nextInt(5) == 0) {
            chunks.add(new Chunk("teXt", new byte[random.nextInt(4)]));
        }
    }

    private Chunk control(int serial, int width, int height, int x, int y) {
        return new Chunk("fcTL", Made.controlData(odd(serial), odd(width), odd(height), odd(x),
            odd(y), odd(random.nextInt(3)), odd(random.nextInt(2))));
    }

    private List<byte[]> split(byte[] packed) {
        int cut = random.nextInt(2) == 0 ? packed.length : random.nextInt(packed.length + 1);
        return cut == packed.length ? List.of(packed)
            : List.of(Arrays.copyOf(packed, cut),
                Arrays.copyOfRange(packed, cut, packed.length));
    }

    private byte[] picture(int width, int height) {
        int size = height * (1 + 4 * width) + (random.nextInt(30) == 0 ? random.nextInt(3) - 1 : 0);
        byte[] rows = new byte[size];
        int colours = random.nextBoolean() ? 256 : 3;
        for (int k = 0; k < size; k++) {
            rows[k] = (byte) (k % (1 + 4 * width) != 0 ? random.nextInt(colours)
                : random.nextInt(random.nextInt(30) == 0 ? 7 : 5));
        }
        byte[] packed = Made.packed(rows, random.nextInt(10), random.nextInt(3));
        if (random.nextInt(12) == 0) {
            packed[random.nextInt(packed.length)] ^= (byte) (1 << random.nextInt(8));
        }
        return packed;
    }

    private byte[] written(List<Chunk> chunks) {
        if (random.nextInt(6) == 0) {
            chunks.remove(random.nextInt(chunks.size()));
        }
        if (random.nextInt(6) == 0) {
            Chunk chunk = chunks.get(random.nextInt(chunks.size()));
            chunks.add(random.nextInt(chunks.size() + 1), chunk);
        }
        if (random.nextInt(6) == 0) {
            int i = random.nextInt(chunks.size());
            chunks.set(i, new Chunk(TYPES[random.nextInt(TYPES.length)], chunks.get(i).data()));
        }
        Made file = new Made();
        for (Chunk chunk : chunks) {
            file.chunk(chunk.type(), chunk.data());
        }
        byte[] bytes = file.bytes();
        switch (random.nextInt(12)) {
            case 0 -> bytes[random.nextInt(bytes.length)] ^= (byte) (1 << random.nextInt(8));
            case 1 -> bytes[random.nextInt(8)] ^= (byte) (1 << random.nextInt(8));
            case 2 -> bytes = Arrays.copyOf(bytes, random.nextInt(bytes.length + 3));
            default -> {
            }
        }
        return bytes;
    }
}
