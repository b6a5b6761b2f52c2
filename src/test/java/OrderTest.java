import java.util.Random;
import java.util.regex.Matcher;
import java.util.regex.Pattern;

/** Promises 4 and 5: chunks in any order, against the order written as a pattern. */
final class OrderTest {
    private static final Due due = new Due("OrderTest");
    // H IHDR, A acTL, F fcTL, I IDAT, D fdAT, E IEND, o another that may stand, x one that may not.
    private static final Pattern ORDER = Pattern.compile("Ho*Ao*F?I+o*(?:FD+o*)*E");
    private static final String KINDS = "HAFIDEox";
    private static final byte[] DOT = Made.picture(1, 1, 0x11223344);

    public static void main(String[] args) {
        Random random = new Random(41);
        for (int turn = 0; turn < 20000; turn++) {
            int told = 1 + random.nextInt(3);
            look(changed(right(random, told), random), told);
        }
        due.end();
    }

    private static StringBuilder right(Random random, int told) {
        StringBuilder row = new StringBuilder("H").append(many("o", random));
        row.append('A').append(many("o", random));
        boolean firstIsDefault = random.nextBoolean();
        row.append(firstIsDefault ? "F" : "").append('I').append(many("I", random));
        row.append(many("o", random));
        for (int k = firstIsDefault ? 1 : 0; k < told; k++) {
            row.append("FD").append(many("D", random)).append(many("o", random));
        }
        return row.append('E');
    }

    private static String many(String kind, Random random) {
        return kind.repeat(random.nextInt(3) == 0 ? 1 + random.nextInt(2) : 0);
    }

    private static String changed(StringBuilder row, Random random) {
        for (int times = random.nextInt(3); times > 0 && row.length() > 1; times--) {
            int i = random.nextInt(row.length());
            char kind = KINDS.charAt(random.nextInt(KINDS.length()));
            switch (random.nextInt(4)) {
                case 0 -> row.insert(i, kind);
                case 1 -> row.deleteCharAt(i);
                case 2 -> row.setCharAt(i, kind);
                default -> {
                    char other = row.charAt(i);
                    int j = random.nextInt(row.length());
                    row.setCharAt(i, row.charAt(j));
                    row.setCharAt(j, other);
                }
            }
        }
        return row.toString();
    }

    private static void look(String row, int told) {
        Made file = new Made();
        int answer = 0;
        int place = FrameReel.NONE;
        for (int k = 0; k < row.length(); k++) {
            if (answer == 0 && !mayStand(row.substring(0, k + 1), told)) {
                answer = -4;
                place = row.substring(0, k).endsWith("E") ? file.size() : file.next();
            }
            add(file, row.charAt(k), k > 0 && row.charAt(k - 1) == row.charAt(k), told);
        }
        if (answer == 0) {
            boolean ends = row.endsWith("E");
            answer = ends ? told : -2;
            place = ends ? FrameReel.NONE : file.size();
        }
        due.read(row + " of " + told, new FrameReel(), file.bytes(), answer, place);
    }

    private static boolean mayStand(String row, int told) {
        Matcher matcher = ORDER.matcher(row);
        boolean fits = matcher.matches() || matcher.hitEnd();
        long controls = row.chars().filter(kind -> kind == 'F').count();
        return fits && (row.endsWith("E") ? controls == told : controls <= told);
    }

    /** A chunk that is right but for its place; only the first one of a picture has bytes. */
    private static void add(Made file, char kind, boolean goesOn, int told) {
        byte[] packed = goesOn ? new byte[0] : DOT;
        switch (kind) {
            case 'H' -> file.head(1, 1);
            case 'A' -> file.counts(told, 0);
            case 'F' -> file.control(1, 1, 0, 0, 0, 0);
            case 'I' -> file.data(packed);
            case 'D' -> file.frameData(packed);
            case 'E' -> file.end();
            case 'o' -> file.chunk("teXt", (byte) 65);
            default -> file.chunk("TeXt", (byte) 65);
        }
    }
}
