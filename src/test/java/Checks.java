/** What the tests by examples have in common: an object, what is told of it, what is due. */
abstract class Checks {
    static final int NONE = StepSums.NONE;
    /** Four blanks. */
    static final int BLANKS = 0x20202020;

    StepSums s;
    private int wrong;
    private int asked;
    private int calls;
    private String sentence = "";

    /** The sentence of the document that the next answers are due by; they are a new object's. */
    void begin(String told) {
        sentence = told;
        calls = 0;
        s = new StepSums();
    }

    /** What an object answers after its 512th call is free: no test goes so far. */
    private void countCall() {
        calls++;
        if (calls == 513) {
            wrong++;
            System.out.println(sentence + " -- more than 512 calls of one object");
        }
    }

    void due(String call, long got, long want) {
        countCall();
        asked++;
        if (got != want) {
            wrong++;
            System.out.println(sentence + " -- " + call + " answered " + got + ", due is " + want);
        }
    }

    void yes(String call, boolean got) {
        due(call, got ? 1 : 0, 1);
    }

    void no(String call, boolean got) {
        due(call, got ? 1 : 0, 0);
    }

    /** The text comes on the tape: twenty bytes a time, what is too much is taken back. */
    void put(String text) {
        int surplus = (20 - text.length() % 20) % 20;
        String all = text + " ".repeat(surplus);
        for (int at = 0; at < all.length(); at += 20) {
            s.feed(four(all, at), four(all, at + 4), four(all, at + 8), four(all, at + 12), four(all, at + 16));
            countCall();
        }
        s.back(surplus);
        countCall();
    }

    private static int four(String all, int at) {
        return all.charAt(at) << 24 | all.charAt(at + 1) << 16 | all.charAt(at + 2) << 8 | all.charAt(at + 3);
    }

    /** A text without a FAULT. */
    void text(String text) {
        put(text);
        due("read " + text, s.read(), 0);
        due("place", s.place(), NONE);
    }

    void fault(String text, int number, int place) {
        put(text);
        due("read " + text, s.read(), number);
        due("place of " + text, s.place(), place);
        due("tape after " + text, s.count(2), 0);
    }

    interface Row {
        int at(int i);
    }

    /** The row has just these numbers, and nothing on either side. */
    void row(String call, Row row, int... want) {
        due(call + " NONE", row.at(NONE), want.length);
        for (int i = 0; i < want.length; i++) {
            due(call + " " + i, row.at(i), want[i]);
        }
        due(call + " behind", row.at(want.length), NONE);
        due(call + " -2", row.at(-2), NONE);
        due(call + " greatest", row.at(Integer.MAX_VALUE), NONE);
        due(call + " least", row.at(Integer.MIN_VALUE), NONE);
    }

    void gaps(int set, int... want) {
        row("gap " + set, i -> s.gap(set, i), want);
    }

    void generators(int set, int... want) {
        row("generator " + set, i -> s.generator(set, i), want);
    }

    /** Tells how many answers were asked; ends with 1 if one was not as due. */
    void end() {
        System.out.println(getClass().getName() + ": " + asked + " answers, " + wrong + " wrong");
        if (wrong != 0) {
            System.exit(1);
        }
    }
}
