import java.util.Arrays;

/** Terms: the faults, which of them comes first, and their places, sentence by sentence. */
final class FaultEdgeTest {
    private static final Due due = new Due("FaultEdgeTest");
    private static final byte[] DOT = Made.DOT;
    private static final byte[] NOTHING = {};
    private static final byte[] BAD_PACKED = {120, 1, 7};
    private static final byte[] BAD_ROWS = Made.packed(new byte[] {5, 0, 0, 0, 0});
    private static final String[] TYPES = {"IHDR", "acTL", "fcTL", "fdAT", "IEND", "abcd", "ABCD",
        "1234"};

    public static void main(String[] args) {
        firstEight();
        behindEnd();
        notAllThere();
        wrongSum();
        overPacked();
        goesOn();
        overRows();
        chunkItself();
        controlWithout();
        endTooEarly();
        firstFault();
        due.end();
    }

    private static byte[] cut(byte[] file, int n) {
        return Arrays.copyOf(file, n);
    }

    private static byte[] turned(byte[] file, int at) {
        byte[] other = file.clone();
        other[at] ^= 1;
        return other;
    }

    private static void fault(String what, byte[] file, int fault, int place) {
        due.read(what, new FrameReel(), file, -fault, place);
    }

    private static void firstEight() {
        due.sentence("1 its first eight bytes (the first that is another one, or how many there"
            + " are)");
        byte[] right = Made.beforeDot().data(DOT).end().bytes();
        for (int n = 0; n < 8; n++) {
            fault("no more than " + n, cut(right, n), 1, n);
            for (int k = 0; k < 8; k++) {
                byte[] wrong = turned(right, k);
                fault("another one at " + k, wrong, 1, k);
                fault("another one at " + k + " of " + n, cut(wrong, n), 1, Math.min(k, n));
                if (k != n) {
                    fault("other ones at " + k + " and " + n, turned(wrong, n), 1,
                        Math.min(k, n));
                }
            }
        }
        fault("eight and no more", cut(right, 8), 2, 8);
    }

    private static void behindEnd() {
        due.sentence("behind IEND nothing is looked for but that there is nothing (4, at the first"
            + " byte there)");
        Made right = Made.beforeDot().data(DOT).end();
        int end = right.size();
        byte[] more = Made.beforeDot().data(DOT).end().data(DOT).head(1, 1).end().bytes();
        for (int n = end + 1; n < more.length; n++) {
            fault("cut at " + n, cut(more, n), 4, end);
        }
        fault("a chunk with another sum", turned(more, more.length - 1), 4, end);
        fault("right ones", more, 4, end);
    }

    private static void notAllThere() {
        due.sentence("2: it is not all there (the place is how many bytes there are)");
        byte[] right = Made.started(1, 1, 2).control(1, 1, 0, 0, 0, 0).data(DOT).chunk("abcd")
            .control(1, 1, 0, 0, 0, 0).frameData(DOT).end().bytes();
        for (int n = 8; n < right.length; n++) {
            fault("cut at " + n, cut(right, n), 2, n);
        }
        // A full tape: nothing that is looked for lies behind it.
        for (int left = 0; left < 20; left++) {
            for (int filling = left < 12 ? 0 : 1; filling < 3; filling++) {
                byte[] rest = new byte[left];
                Arrays.fill(rest, (byte) filling);
                Made file = new Made().head(1, 1);
                file.chunk("abcd", new byte[8000 - 12 - left - file.size()]).raw(rest);
                due.fault(left + " bytes left", file, 2, 8000);
            }
        }
        for (String type : TYPES) {
            // Its type or its place is wrong too, and a picture before it; that is not seen yet.
            byte[] file = Made.beforeDot().data(BAD_PACKED).chunk(type, new byte[4]).bytes();
            for (int less = 1; less < 16; less++) {
                fault(type + ", " + less + " less", cut(file, file.length - less), 2,
                    file.length - less);
            }
        }
    }

    private static void wrongSum() {
        due.sentence("3: its sum (from here on the place is that of its type)");
        for (String type : TYPES) {
            Made file = Made.beforeDot().data(BAD_PACKED).mark().chunk(type, new byte[4]);
            byte[] all = file.bytes();
            for (int k = 1; k <= 8; k++) {
                fault(type + ", byte " + k + " from its end", turned(all, all.length - k), 3,
                    file.marked());
            }
            file = new Made().mark().chunk(type);
            fault(type + " at first", turned(file.bytes(), file.size() - 1), 3, file.marked());
        }
        // A type that is turned is the sum's fault before it is the type's.
        byte[] right = Made.beforeDot().data(DOT).end().bytes();
        for (int k = 12; k < 16; k++) {
            fault("a letter of IHDR", turned(right, k), 3, 12);
        }
    }

    private static void overPacked() {
        due.sentence("5: a picture was over with the chunk before (this one goes on with none):"
            + " its packed bytes");
        for (String type : TYPES) {
            due.fault("IDAT, then " + type, Made.beforeDot().data(BAD_PACKED).mark().chunk(type),
                5);
            due.fault("IDAT of none, then " + type,
                Made.started(1, 1, 1).data(BAD_PACKED).mark().chunk(type), 5);
            if (!type.equals("fdAT")) {
                due.fault("fdAT, then " + type, Made.beforeFrameDot().frameData(BAD_PACKED).mark()
                    .chunk(type), 5);
            }
        }
        due.fault("fdAT, then IDAT", Made.beforeFrameDot().frameData(BAD_PACKED).mark().data(DOT),
            5);
        due.fault("IDAT, then a right fcTL", Made.started(1, 1, 1).data(BAD_PACKED).mark()
            .control(1, 1, 0, 0, 0, 0), 5);
        due.fault("fdAT, then a right fcTL", Made.started(1, 1, 2).data(DOT)
            .control(1, 1, 0, 0, 0, 0).frameData(BAD_PACKED).mark().control(1, 1, 0, 0, 0, 0), 5);
        Made file = Made.beforeDot().data(BAD_PACKED);
        due.fault("no chunk behind it", file, 2, file.size());
    }

    private static void goesOn() {
        due.sentence("(this one goes on with none)");
        byte[] start = cut(DOT, 4);
        byte[] rest = Arrays.copyOfRange(DOT, 4, DOT.length);
        due.fine("an IDAT goes on", Made.beforeDot().data(start).data(rest).end(), 1);
        due.fine("a fdAT goes on", Made.beforeFrameDot().frameData(start).frameData(rest).end(),
            1);
        due.fault("an IDAT that goes on, with another sum",
            Made.beforeDot().data(start).mark().data(rest).turnLast(), 3);
        due.fault("a fdAT goes on, its serial is wrong",
            Made.beforeFrameDot().frameData(start).mark().frameDataOf(9, rest), 4);
        due.fault("a fdAT goes on, its length is wrong",
            Made.beforeFrameDot().frameData(start).mark().chunk("fdAT", new byte[3]), 4);
        due.fault("a picture that is right goes on", Made.beforeDot().data(DOT)
            .data(new byte[] {0}).mark().end(), 5);
        due.fault("each picture by itself", Made.started(1, 1, 2).control(1, 1, 0, 0, 0, 0)
            .data(DOT).control(1, 1, 0, 0, 0, 0).frameData(start).mark().end(), 5);
    }

    private static void overRows() {
        due.sentence("6: its rows.");
        for (String type : TYPES) {
            due.fault("IDAT, then " + type, Made.beforeDot().data(BAD_ROWS).mark().chunk(type), 6);
            if (!type.equals("fdAT")) {
                due.fault("fdAT, then " + type,
                    Made.beforeFrameDot().frameData(BAD_ROWS).mark().chunk(type), 6);
            }
        }
        byte[] both = Made.joined(BAD_ROWS, new byte[1]);
        due.fault("5 before 6", Made.beforeDot().data(both).mark().end(), 5);
        due.fault("3 before 6", Made.beforeDot().data(BAD_ROWS).mark().end().turnLast(), 3);
        Made file = Made.beforeDot().data(BAD_ROWS);
        due.fault("2 before 6", file, 2, file.size());
    }

    private static void chunkItself() {
        due.sentence("4: its type, order, length, serial or numbers are not as said");
        due.fault("type", Made.beforeDot().data(DOT).mark().chunk("a1cd"), 4);
        due.fault("order", Made.beforeDot().data(DOT).chunk("abcd").mark().data(NOTHING), 4);
        due.fault("length", new Made().head(1, 1).mark().chunk("acTL", new byte[7]), 4);
        due.fault("serial", Made.started(1, 1, 1).mark().controlOf(1, 1, 1), 4);
        due.fault("numbers", new Made().mark().head(1, 17), 4);
        due.fault("all of them", Made.started(1, 1, 1).data(DOT).mark().chunk("fcTL"), 4);
    }

    private static void controlWithout() {
        due.sentence("a fcTL without acTL before it, or more of them than acTL tells");
        due.fault("without", new Made().head(1, 1).mark().control(1, 1, 0, 0, 0, 0), 4);
        due.fault("without, another before it",
            new Made().head(1, 1).chunk("abcd").mark().control(1, 1, 0, 0, 0, 0), 4);
        due.fault("more than one", Made.beforeDot().data(DOT).mark().control(1, 1, 0, 0, 0, 0), 4);
        due.fault("more than one, behind fdAT", Made.beforeFrameDot().frameData(DOT).mark()
            .control(1, 1, 0, 0, 0, 0), 4);
        Made file = Made.started(1, 1, 8).data(DOT);
        for (int k = 0; k < 8; k++) {
            file.control(1, 1, 0, 0, 0, 0).frameData(DOT);
        }
        due.fault("more than eight", file.mark().control(1, 1, 0, 0, 0, 0), 4);
    }

    private static void endTooEarly() {
        due.sentence("IEND when there was no IDAT, a fcTL has no data, or there are fewer of them");
        due.fault("behind IHDR", new Made().head(1, 1).mark().end(), 4);
        due.fault("behind acTL", Made.started(1, 1, 1).mark().end(), 4);
        due.fault("behind another", Made.started(1, 1, 1).chunk("abcd").mark().end(), 4);
        due.fault("behind the first fcTL", Made.beforeDot().mark().end(), 4);
        due.fault("behind a later fcTL", Made.beforeFrameDot().mark().end(), 4);
        due.fault("none of one", Made.started(1, 1, 1).data(DOT).mark().end(), 4);
        due.fault("one of two", Made.started(1, 1, 2).control(1, 1, 0, 0, 0, 0).data(DOT).mark()
            .end(), 4);
        Made file = Made.started(1, 1, 8).data(DOT);
        for (int k = 0; k < 7; k++) {
            file.control(1, 1, 0, 0, 0, 0).frameData(DOT);
        }
        due.fault("seven of eight", file.chunk("abcd").mark().end(), 4);
    }

    private static void firstFault() {
        due.sentence("Then for one chunk behind the other");
        due.fault("a number, then a sum", new Made().head(1, 1).mark().counts(9, 0).head(1, 1)
            .turnLast(), 4);
        due.fault("a number, then the end",
            new Made().head(1, 1).mark().counts(9, 0).raw((byte) 1), 4);
        due.fault("a picture, then another", Made.started(1, 1, 2).control(1, 1, 0, 0, 0, 0)
            .data(BAD_ROWS).mark().control(1, 1, 0, 0, 0, 0).frameData(BAD_PACKED).end(), 6);
        due.fault("a sum, then a number", new Made().mark().head(1, 1).turnLast().counts(9, 0), 3);
    }
}
