/** Counts the answers of one test that are not the ones that are due. */
final class Due {
    private static final int MOST_LINES = 30;

    private final String name;
    private String sentence = "";
    private int lookedBefore = 0;
    private int looked = 0;
    private int wrong = 0;

    Due(String name) {
        this.name = name;
    }

    /** What is looked at from here on is what these words of the document ask for. */
    void sentence(String words) {
        leaveSentence();
        sentence = " \"" + words + "\"";
        lookedBefore = looked;
    }

    private void leaveSentence() {
        if (!sentence.isEmpty() && looked == lookedBefore) {
            wrong++;
            tell(name + sentence + ": no answer was looked at");
        }
    }

    void is(String what, long got, long want) {
        looked++;
        if (got != want) {
            wrong++;
            tell(name + sentence + ": " + what + " answered " + got + ", due is " + want);
        }
    }

    private void tell(String line) {
        if (wrong <= MOST_LINES) {
            System.out.println(line);
        }
    }

    void pixel(String what, FrameReel reel, int x, int y, int want) {
        try {
            is(what + ": pixel(" + x + ", " + y + ")", reel.pixel(x, y), want);
        } catch (IndexOutOfBoundsException e) {
            is(what + ": pixel(" + x + ", " + y + ") throws", 1, 0);
        }
    }

    void noPixel(String what, FrameReel reel, int x, int y) {
        int thrown = 0;
        try {
            reel.pixel(x, y);
        } catch (IndexOutOfBoundsException e) {
            // An array's own exception would be no throw of the class.
            thrown = e.getClass() == IndexOutOfBoundsException.class ? 1 : 2;
        }
        is(what + ": pixel(" + x + ", " + y + ") throws", thrown, 1);
    }

    /** Types the file, reads it, and looks at the answer and at the place. */
    void read(String what, FrameReel reel, byte[] file, int answer, int place) {
        Made.typeIn(reel, file);
        is(what + ": read()", reel.read(), answer);
        is(what + ": place()", reel.place(), place);
    }

    void fine(String what, Made file, int frames) {
        read(what, new FrameReel(), file.bytes(), frames, FrameReel.NONE);
    }

    void fault(String what, Made file, int fault, int place) {
        read(what, new FrameReel(), file.bytes(), -fault, place);
    }

    /** A fault whose place is the type of the chunk that was marked. */
    void fault(String what, Made file, int fault) {
        fault(what, file, fault, file.marked());
    }

    void end() {
        leaveSentence();
        System.out.println(name + ": " + looked + " answers, " + wrong + " not as due");
        if (wrong != 0 || looked == 0) {
            System.exit(1);
        }
    }
}
