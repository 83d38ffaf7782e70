/** The document's part I, 'Terms', sentence by sentence: each boundary that it names, from both sides. */
public final class TextEdgesTest extends Checks {
    private static final int SYNTAX = 1;
    private static final int ROOM = 2;
    private static final int TWICE = 3;
    private static final int NAME = 4;
    private static final int WRONG = 5;
    private static final int FAR = 6;
    private static final String[] WORDS = {"of", "sum", "meet", "arf", "part", "add", "drop"};
    private static final String SIX = "of a 1;of b 1;of c 1;of d 1;of e 1;of f 1;";
    /** 24 GENERATORS. */
    private static final String MEET_24 = "of a 7 15; of b 8 9; meet c a b;";

    public static void main(String[] args) {
        TextEdgesTest test = new TextEdgesTest();
        test.textHas2000BytesAtMost();
        test.tokensAreTheLongest();
        test.blanksBetweenOrNot();
        test.nameHasLetters();
        test.nameHas8LettersAtMost();
        test.nameIsNoneOfTheWords();
        test.intHas1To4Digits();
        test.signIsSemicolon();
        test.textMayHaveNoLine();
        test.lineOf();
        test.linesSumAndMeet();
        test.lineArf();
        test.linesPartAddDrop();
        test.noLineOfAnotherForm();
        test.setsAre6AtMost();
        test.setsAreNumberedAsTheyStand();
        test.othersStandAhead();
        test.intsOfAre1To15();
        test.intsOfAre10AtMost();
        test.ofAllSums();
        test.sumOfTwo();
        test.meetOfTwo();
        test.arfOfOne();
        test.partOfOne();
        test.addToOne();
        test.dropFromOne();
        test.theFirstByItsPlace();
        test.theTextsEndIsItsLength();
        test.syntaxAtWhatDoesNotGoOn();
        test.roomAt7thLine();
        test.roomAt11thInt();
        test.syntaxAndRoomAheadOfOthers();
        test.twiceAtTheFirstName();
        test.nameAtAnother();
        test.wrongAtTheInt();
        test.farOfMultiples();
        test.farByConductor();
        test.farByGenerators();
        test.notFarWith24Generators();
        test.theFirstOfTheLateOnes();
        test.aFaultChangesNothing();
        test.noFaultReplacesAll();
        test.end();
    }

    private void textHas2000BytesAtMost() {
        begin("A TEXT has 2,000 bytes at most.");
        text(" ".repeat(1993) + "of a 1;");
        due("SETS", s.count(0), 1);
        fault(" ".repeat(1993) + "of a 1!", SYNTAX, 1999);
        fault(" ".repeat(1994) + "of a 1", SYNTAX, 2000);
        text("of a 3 5;" + "\n".repeat(1991));
        generators(0, 3, 5);
        begin("A TEXT has 2,000 bytes at most.");
        text("of" + " ".repeat(1994) + "a01;");
        due("SETS", s.count(0), 1);
        due("another TEXT behind", s.feed(0, 0, 0, 0, 0), 20);
    }

    private void tokensAreTheLongest() {
        begin("TOKENS, the longest that can be");
        fault("ofa 1;", SYNTAX, 0);
        fault("of a 1;ofb 1;", SYNTAX, 7);
        fault("of a 161;", WRONG, 5);
        fault("of a 015015;", SYNTAX, 5);
        text("of a1;of b1 5;sum c a b;");
        fault("of a 3 5; arf b ab;", NAME, 16);
        text("of a 3 5;of ab 2 3;arf c ab;");
        generators(2, 2, 3);
        text("of a 11 2;");
        generators(0, 2, 11);
        text("of a 1 1 2;");
        generators(0, 1);
    }

    /** What a byte does at each place where a blank can be, and where it cannot. */
    private void blanksBetweenOrNot() {
        for (int b = 0; b < 256; b++) {
            begin("with blanks (9, 10, 13, 32) between or not; byte " + b);
            boolean blank = b == 9 || b == 10 || b == 13 || b == 32;
            boolean digit = b >= '0' && b <= '9';
            String in = String.valueOf((char) b);
            if (blank) {
                text("of a 3" + in + "5;");
                generators(0, 3, 5);
                text(in + "of" + in + in + "a" + in + "3" + in + "5" + in + ";" + in);
                generators(0, 3, 5);
            } else {
                fault("of a 3" + in + "5;", digit ? WRONG : SYNTAX, digit ? 5 : b == ';' ? 7 : 6);
                fault("of a 1;" + in, SYNTAX, 7);
                fault(in + "of a 1;", SYNTAX, 0);
                fault("of a 1;" + in + "of b 1;", SYNTAX, 7);
            }
        }
        begin("with blanks between or not");
        text("of a3 5;of b2 3;meet c a b;arf d a;part e a2;add f a7;");
        generators(5, 3, 5, 7);
        text("\t\r\n of\t\ta\r\r3\n\n5  ;\t\r\n ");
        generators(0, 3, 5);
        fault("o f a 1;", SYNTAX, 0);
        fault("of a 3 5 ; ; ", SYNTAX, 11);
    }

    private void nameHasLetters() {
        for (int b = 0; b < 256; b++) {
            begin("NAMES (letters a .. z); byte " + b);
            boolean blank = b == 9 || b == 10 || b == 13 || b == 32;
            String in = String.valueOf((char) b);
            if (b >= 'a' && b <= 'z') {
                text("of " + in + " 3 5;arf q" + in + " " + in + ";");
                generators(1, 3, 5, 7);
            } else {
                fault("of " + in + " 1;", SYNTAX, blank ? 5 : 3);
            }
        }
    }

    private void nameHas8LettersAtMost() {
        begin("NAMES (8 at most)");
        text("of abcdefgh 3 5;of bcdefgh 2 3;of z 1;of abcdefgi 4 5;of abcdefg 1;arf x abcdefgi;");
        generators(0, 3, 5);
        generators(1, 2, 3);
        generators(3, 4, 5);
        due("of abcdefgi", s.same(5, 3), 2);
        fault("of abcdefghi 1;", SYNTAX, 3);
        fault("of a 1;of b 1;sum abcdefghi a b;", SYNTAX, 18);
        fault("of a 1;of b 1;sum c abcdefghi b;", SYNTAX, 20);
        fault("of a 1;of b 1;sum c a abcdefghi;", SYNTAX, 22);
        fault("of a 1;arf b aaaaaaaaa;", SYNTAX, 13);
        fault("abcdefghi", SYNTAX, 0);
        fault("of a 1;meetmeetmeet b a a;", SYNTAX, 7);
        fault("of " + "a".repeat(1997), SYNTAX, 3);
        fault("of " + "a".repeat(8) + "of 1;", SYNTAX, 3);
        fault("of " + "a".repeat(64) + "b 1;", SYNTAX, 3);
    }

    private void nameIsNoneOfTheWords() {
        begin("NAMES (none of the words in quotes)");
        for (String word : WORDS) {
            fault("of " + word + " 1;", SYNTAX, 3);
            fault("of a 1;arf b " + word + ";", SYNTAX, 13);
            fault("of a 1;meet b a " + word + ";", SYNTAX, 16);
            fault("of a 1;sum " + word + " a a;", SYNTAX, 11);
            String longer = word + "s";
            text("of " + longer + " 3 5;arf b " + longer + ";");
            String shorter = word.substring(1);
            text("of " + shorter + " 3 5;arf b " + shorter + ";");
            generators(1, 3, 5, 7);
        }
        text("of ofof 1;of summeet 1;of xof 1;of par 1;of od 1;of pord 1;");
    }

    private void intHas1To4Digits() {
        begin("INTS (1 to 4 digits)");
        text("of a 3 05 007 0008;");
        generators(0, 3, 5, 7);
        fault("of a 00003;", SYNTAX, 5);
        fault("of a 3 00005;", SYNTAX, 7);
        fault("of a 0000;", WRONG, 5);
        fault("of a 9999;", WRONG, 5);
        fault("of a 10000;", SYNTAX, 5);
        fault("of a 4294967299;", SYNTAX, 5);
        fault("of a " + "0".repeat(1993) + "3;", SYNTAX, 5);
        text("of a 3 5;part b a 0002;add c a 0007;drop d a 0003;");
        generators(1, 3, 4, 5);
        generators(2, 3, 5, 7);
        generators(3, 5, 6, 8, 9);
        fault("of a 3 5;part b a 00002;", SYNTAX, 18);
        fault("of a 3 5;drop b a 00003;", SYNTAX, 18);
        fault("of a +3;", SYNTAX, 5);
        fault("of a -3;", SYNTAX, 5);
        fault("of a 3.0;", SYNTAX, 6);
    }

    private void signIsSemicolon() {
        for (int b = 0; b < 256; b++) {
            begin("the SIGN ; -- byte " + b);
            boolean atEnd = b == 9 || b == 10 || b == 13 || b == 32 || b >= '0' && b <= '9';
            String text = "of a 1" + (char) b;
            if (b == ';') {
                text(text);
            } else {
                fault(text, SYNTAX, atEnd ? 7 : 6);
            }
        }
    }

    private void textMayHaveNoLine() {
        begin("text: {TELL}");
        text("of a 1;");
        text("");
        due("SETS", s.count(0), 0);
        text("of a 1;");
        text(" \n");
        due("SETS", s.count(0), 0);
        due("read of an empty tape", s.read(), 0);
        text("of a 1;of b 1;");
        due("SETS", s.count(0), 2);
    }

    private void lineOf() {
        begin("'of' NAME INT {INT} ';'");
        text("of a 1;");
        text("of a 2 3;");
        text("of a 3 4 5 6 7 8 9 10 11 12;");
        fault("of", SYNTAX, 2);
        fault("of;", SYNTAX, 2);
        fault("of 3;", SYNTAX, 3);
        fault("of a", SYNTAX, 4);
        fault("of a;", SYNTAX, 4);
        fault("of a b;", SYNTAX, 5);
        fault("of a b 3;", SYNTAX, 5);
        fault("of a 3", SYNTAX, 6);
        fault("of a 3 b;", SYNTAX, 7);
        fault("of a 3 of b 1;", SYNTAX, 7);
        fault("of a 3 5 a;", SYNTAX, 9);
    }

    private void linesSumAndMeet() {
        begin("('sum' | 'meet') NAME NAME NAME ';'");
        for (String word : new String[] {"sum", "meet"}) {
            String ahead = "of a 1;" + word;
            int at = ahead.length();
            text(ahead + " b a a;");
            fault(ahead, SYNTAX, at);
            fault(ahead + ";", SYNTAX, at);
            fault(ahead + " b;", SYNTAX, at + 2);
            fault(ahead + " b a;", SYNTAX, at + 4);
            fault(ahead + " b a a", SYNTAX, at + 6);
            fault(ahead + " b a a a;", SYNTAX, at + 7);
            fault(ahead + " b a a 1;", SYNTAX, at + 7);
            fault(ahead + " b a 1;", SYNTAX, at + 5);
            fault(ahead + " b 1;", SYNTAX, at + 3);
            fault(ahead + " 1;", SYNTAX, at + 1);
        }
    }

    private void lineArf() {
        begin("'arf' NAME NAME ';'");
        text("of a 1;arf b a;");
        fault("of a 1;arf", SYNTAX, 10);
        fault("of a 1;arf;", SYNTAX, 10);
        fault("of a 1;arf b;", SYNTAX, 12);
        fault("of a 1;arf b a", SYNTAX, 14);
        fault("of a 1;arf b a a;", SYNTAX, 15);
        fault("of a 1;arf b a 1;", SYNTAX, 15);
        fault("of a 1;arf b 1;", SYNTAX, 13);
        fault("of a 1;arf 1;", SYNTAX, 11);
    }

    private void linesPartAddDrop() {
        begin("('part' | 'add' | 'drop') NAME NAME INT ';'");
        text("of a 3 5;part b a 2;add c a 7;drop d a 5;");
        due("SETS", s.count(0), 4);
        String[] words = {"part", "add ", "drop"};
        for (String word : words) {
            String ahead = "of a 3 5;" + word;
            fault(ahead + ";", SYNTAX, 13);
            fault(ahead + " b;", SYNTAX, 15);
            fault(ahead + " b a;", SYNTAX, 17);
            fault(ahead + " b a", SYNTAX, 17);
            fault(ahead + " b a 7", SYNTAX, 19);
            fault(ahead + " b a 7 7;", SYNTAX, 20);
            fault(ahead + " b a 7 a;", SYNTAX, 20);
            fault(ahead + " b a a 7;", SYNTAX, 18);
            fault(ahead + " b 7;", SYNTAX, 16);
            fault(ahead + " 7;", SYNTAX, 14);
        }
    }

    private void noLineOfAnotherForm() {
        begin("TELL");
        fault("a", SYNTAX, 0);
        fault("1", SYNTAX, 0);
        fault(";", SYNTAX, 0);
        fault("of a 1;;", SYNTAX, 7);
        fault("of a 1;a", SYNTAX, 7);
        fault("of a 1;1", SYNTAX, 7);
        fault("Of a 1;", SYNTAX, 0);
        fault("OF a 1;", SYNTAX, 0);
        fault("of A 1;", SYNTAX, 3);
    }

    private void setsAre6AtMost() {
        begin("SETS, 6 at most");
        text(SIX);
        due("SETS", s.count(0), 6);
        due("the last", s.generator(5, 0), 1);
        due("none behind", s.generator(6, NONE), NONE);
        fault(SIX + "of g 1;", ROOM, 42);
        due("SETS", s.count(0), 6);
    }

    private void setsAreNumberedAsTheyStand() {
        begin("numbered from 0 on as they stand");
        text("of z 2 3;of y 3 4;of x 4 5;of w 5 6;of v 6 7;of u 7 8;");
        for (int set = 0; set < 6; set++) {
            generators(set, set + 2, set + 3);
        }
    }

    private void othersStandAhead() {
        begin("of each line the first NAME is its own, others are of SETS that stand ahead of it");
        text("of a 3 5;of b 2 3;sum c a b;meet d c a;arf e d;part f e 1;");
        due("c", s.same(2, 1), 1);
        due("d", s.same(3, 0), 1);
        fault("of a 3 5;sum b a b;", NAME, 17);
        fault("of a 3 5;sum b b a;", NAME, 15);
        fault("of a 3 5;arf b c;of c 1;", NAME, 15);
        fault("arf a a;", NAME, 6);
        text("of a 3 5;");
        fault("arf b a;", NAME, 6);
    }

    private void intsOfAre1To15() {
        begin("'of': INTS (1 .. 15)");
        for (int x = 0; x <= 17; x++) {
            if (x >= 1 && x <= 15) {
                text("of a 1 " + x + ";");
            } else {
                fault("of a 1 " + x + ";", WRONG, 7);
            }
        }
        text("of a 15 14;");
        text("of a 1;");
        fault("of a 0;", WRONG, 5);
        fault("of a 16;", WRONG, 5);
    }

    private void intsOfAre10AtMost() {
        begin("'of': 10 at most, any as often as one likes");
        text("of a 6 7 8 9 10 11 12 13 14 15;");
        generators(0, 6, 7, 8, 9, 10, 11);
        text("of a 9 8 8 8 9 9 8 8 9 9;");
        generators(0, 8, 9);
        fault("of a 9 8 8 8 9 9 8 8 9 9 8;", ROOM, 25);
    }

    private void ofAllSums() {
        begin("'of': 0 and all sums of the INTS, any as often as one likes");
        text("of a 7 4;");
        gaps(0, 1, 2, 3, 5, 6, 9, 10, 13, 17);
        due("0", s.has(0, 0), 1);
        text("of a 5 10 15 6;");
        generators(0, 5, 6);
        text("of a 15 1;");
        gaps(0);
        text("of a 2 15;");
        gaps(0, 1, 3, 5, 7, 9, 11, 13);
    }

    private void sumOfTwo() {
        begin("'sum': all that are one of the first and one of the second, added (0 is of each)");
        text("of a 6 9 13;of b 10 15 6 7;sum c a b;sum d a a;of e 1;sum f e b;");
        // 6 7 9 10 15, and what they make: 15 is 6 and 9, 13 is 6 and 7
        generators(2, 6, 7, 9, 10);
        due("itself twice", s.same(3, 0), 1);
        gaps(5);
        text("of a 4 9;of b 5 11;sum c a b;sum d b a;");
        generators(2, 4, 5, 11);
        due("the other way round", s.same(3, 2), 1);
    }

    private void meetOfTwo() {
        begin("'meet': what is of both");
        text("of a 3 5;of b 4 5 7;meet c a b;meet d a a;of e 1;meet f e b;");
        // 3 5 6 8 .. and 4 5 7 8 9 ..
        gaps(2, 1, 2, 3, 4, 6, 7);
        due("itself twice", s.same(3, 0), 1);
        due("with all", s.same(5, 1), 1);
    }

    private void arfOfOne() {
        begin("'arf': the least SET that has all of that one, and x and y less z");
        text("of a 1;arf b a;of c 2 3;arf d c;of e 3 4 5;arf f e;");
        gaps(1);
        due("2 3", s.same(3, 2), 1);
        due("3 4 5", s.same(5, 4), 1);
        text("of a 4 5;arf b a;of c 5 8;arf d c;of e 6 14 15;arf f e;");
        // 5 and 5 less 4, 5 and 6 less 4
        gaps(1, 1, 2, 3);
        // 8 and 8 less 5 is 11, 8 and 11 less 5 is 14; 12 only as 11 and 11 less 10
        gaps(3, 1, 2, 3, 4, 6, 7, 9);
        // 14 and 14 less 12 is 16, 15 and 14 less 12 is 17
        gaps(5, 1, 2, 3, 4, 5, 7, 8, 9, 10, 11, 13);
        text("of a 4 6 13;arf b a;arf c b;");
        // 13 and 13 less 12 is 14, 13 and 6 less 4 is 15
        gaps(1, 1, 2, 3, 5, 7, 9, 11);
        due("once more", s.same(2, 1), 1);
    }

    private void partOfOne() {
        begin("'part': all whole numbers from 0 on that, times INT (1 .. 9), are of that one");
        text("of a 5 13;part b a 1;part c a 2;part d a 9;part e a 5;");
        due("times 1", s.same(1, 0), 1);
        // half of 10, 18, 20, 26, 28 ..; of 5 13 are gaps 1-4 6-9 11 12 14 16 17 19 21 22 24 27 29 32 34 37 42 47
        gaps(2, 1, 2, 3, 4, 6, 7, 8, 11, 12, 16, 17, 21);
        // 9 27 are not of it, 18 is, 36 is, 45 is
        gaps(3, 1, 3);
        gaps(4);
        for (int times = 0; times <= 11; times++) {
            String line = "of a 5 13;part b a " + times + ";";
            if (times >= 1 && times <= 9) {
                text(line);
            } else {
                fault(line, WRONG, 19);
            }
        }
    }

    private void addToOne() {
        begin("'add': that one, and INT, one of its SPECIAL GAPS");
        text("of a 4 5 7;add b a 6;of c 3 5;add d c 7;");
        gaps(1, 1, 2, 3);
        gaps(3, 1, 2, 4);
        gaps(2, 1, 2, 4, 7);
        // 3 is STIFF, but 6 is none of it; 1 and 2 are not STIFF; 4 is no GAP
        fault("of a 4 5 7;add b a 3;", WRONG, 19);
        fault("of a 4 5 7;add b a 2;", WRONG, 19);
        fault("of a 4 5 7;add b a 4;", WRONG, 19);
        fault("of a 4 5 7;add b a 0;", WRONG, 19);
        fault("of a 4 5 7;add b a 9999;", WRONG, 19);
        fault("of a 1;add b a 1;", WRONG, 15);
        text("of a 2 3;add b a 1;");
        gaps(1);
    }

    private void dropFromOne() {
        begin("'drop': that one but INT, one of its GENERATORS");
        text("of a 3 5;drop b a 3;drop c a 5;of d 1;drop e d 1;");
        gaps(1, 1, 2, 3, 4, 7);
        gaps(2, 1, 2, 4, 5, 7);
        gaps(4, 1);
        gaps(0, 1, 2, 4, 7);
        fault("of a 3 5;drop b a 6;", WRONG, 18);
        fault("of a 3 5;drop b a 7;", WRONG, 18);
        fault("of a 3 5;drop b a 0;", WRONG, 18);
        fault("of a 3 5;drop b a 9999;", WRONG, 18);
        fault("of a 1;drop b a 2;", WRONG, 16);
    }

    private void theFirstByItsPlace() {
        begin("FAULTS of a text, the first by its place");
        fault("of of 1; of of 1;", SYNTAX, 3);
        fault("of a of; of a 1 2 3 4 5 6 7 8 9 10 11;", SYNTAX, 5);
        fault("of a 1 2 3 4 5 6 7 8 9 10 11; of of;", ROOM, 26);
        fault("of a 1 2 3 4 5 6 7 8 9 10 11 of;", ROOM, 26);
        fault(SIX + "of of;", ROOM, 42);
        fault("of a 1;of b 1;of c 1;of d 1;of e 1;of f 1 1 1 1 1 1 1 1 1 1 1;of g 1;", ROOM, 60);
        fault("of a 1 2 3 4 5 6 7 8 9 10 11; of b 1 2 3 4 5 6 7 8 9 10 11;", ROOM, 26);
    }

    private void theTextsEndIsItsLength() {
        begin("a byte; the text's end: its length");
        fault("of", SYNTAX, 2);
        fault("of ", SYNTAX, 3);
        fault("of\n\n\n", SYNTAX, 5);
        fault("of a 3 5", SYNTAX, 8);
        fault(" of a 3 5\t", SYNTAX, 10);
        fault("of a 3 5;sum", SYNTAX, 12);
        fault("of a 3 5;drop b a 3 ", SYNTAX, 20);
        fault(" ".repeat(1998) + "of", SYNTAX, 2000);
    }

    private void syntaxAtWhatDoesNotGoOn() {
        begin("1 SYNTAX: a TOKEN, or what is none, with which no text goes on");
        fault("of a 3 5 7 of", SYNTAX, 11);
        fault("of a 3 5 7 b", SYNTAX, 11);
        fault("of a 3 5 7 abcdefghi", SYNTAX, 11);
        fault("of a 3 5 7 12345", SYNTAX, 11);
        fault("of a 3 5 7 !", SYNTAX, 11);
        fault("of a 3 5 7 ;x", SYNTAX, 12);
        fault("of a 3 5 7 ;abcdefghi", SYNTAX, 12);
        fault("of a 3 5 7 ;12345", SYNTAX, 12);
        fault("of 12345 1;", SYNTAX, 3);
        fault("sum a 3;", SYNTAX, 6);
    }

    private void roomAt7thLine() {
        begin("2 ROOM: a 7th line (at its first word)");
        text(SIX + "\n");
        for (String word : WORDS) {
            fault(SIX + word, ROOM, 42);
            fault(SIX + " \n" + word + " a;", ROOM, 44);
        }
        fault(SIX + SIX, ROOM, 42);
        fault(SIX + "x", SYNTAX, 42);
        fault(SIX + "ofx", SYNTAX, 42);
        fault(SIX + "1", SYNTAX, 42);
        fault(SIX + ";", SYNTAX, 42);
        fault(SIX + "?", SYNTAX, 42);
        fault(SIX + "meetmeetm", SYNTAX, 42);
        fault(SIX.substring(0, 41), SYNTAX, 41);
    }

    private void roomAt11thInt() {
        begin("2 ROOM: an 11th INT of 'of' (at it)");
        text("of a 1 2 3 4 5 6 7 8 9 10;");
        fault("of a 1 2 3 4 5 6 7 8 9 10 11;", ROOM, 26);
        fault("of a 1 2 3 4 5 6 7 8 9 10 11 12;", ROOM, 26);
        fault("of a 1 2 3 4 5 6 7 8 9 10 0", ROOM, 26);
        fault("of a 1 2 3 4 5 6 7 8 9 10 9999", ROOM, 26);
        fault("of a 1 2 3 4 5 6 7 8 9 10 10000", SYNTAX, 26);
        fault("of a 1 2 3 4 5 6 7 8 9 10 b", SYNTAX, 26);
        fault("of a 1 2 3 4 5 6 7 8 9 10", SYNTAX, 25);
        fault("of a 1; of b 1 2 3 4 5 6 7 8 9 10 11;", ROOM, 34);
        text("of a 1 1 1 1 1 1 1 1 1 1; of b 1 1 1 1 1 1 1 1 1 1;");
    }

    private void syntaxAndRoomAheadOfOthers() {
        begin("If there is none, the first of: 3 TWICE, 4 NAME, 5 WRONG, 6 FAR");
        String[] late = {"of a 1;of a 1;", "arf a b;", "of a 16;", "of a 2;"};
        int[] number = {TWICE, NAME, WRONG, FAR};
        int[] place = {10, 6, 5, 6};
        for (int i = 0; i < late.length; i++) {
            fault(late[i], number[i], place[i]);
            fault(late[i] + "of", SYNTAX, late[i].length() + 2);
            fault(late[i] + "of x 1 1 1 1 1 1 1 1 1 1 1;", ROOM, late[i].length() + 25);
            fault(late[i] + SIX, ROOM, late[i].length() + (i == 0 ? 28 : 35));
        }
    }

    private void twiceAtTheFirstName() {
        begin("3 TWICE: (at a line's first NAME) an earlier line's own NAME");
        fault("of a 1;of a 1;", TWICE, 10);
        fault("of a 1;of b 1;of c 1;of d 1;of e 1;of a 1;", TWICE, 38);
        fault("of a 1;of b 1;of c 1;of d 1;of e 1;of e 1;", TWICE, 38);
        fault("of a 1;sum a x y;", TWICE, 11);
        fault("of a 1;of a 0;", TWICE, 10);
        fault("of a 1;arf a a;", TWICE, 11);
        fault("of a 1;of b 1;of a 1;of b 1;", TWICE, 17);
        text("of a 1;of b 1;of aa 1;of ab 1;of ba 1;of aaaaaaaa 1;");
        text("of a 1;");
    }

    private void nameAtAnother() {
        begin("4 NAME: (at it) another NAME that is no earlier line's own");
        fault("of a 1;sum b c a;", NAME, 13);
        fault("of a 1;sum b a c;", NAME, 15);
        fault("of a 1;sum b c d;", NAME, 13);
        fault("of a 1;meet b a b;", NAME, 16);
        fault("of a 1;arf b aa;", NAME, 13);
        fault("of a 1;part b c 0;", NAME, 14);
        fault("of a 1;add b c 0;", NAME, 13);
        fault("of a 1;drop b c 0;", NAME, 14);
        fault("arf a b;of b 1;", NAME, 6);
    }

    private void wrongAtTheInt() {
        begin("5 WRONG: (at the INT) of 'of' not 1 .. 15, of 'part' not 1 .. 9, of 'add', 'drop' not as told above");
        fault("of a 3 5 16;", WRONG, 9);
        fault("of a 0 16;", WRONG, 5);
        fault("of a 3 0 5;", WRONG, 7);
        fault("of a 2 4 6 8 0;", WRONG, 13);
        fault("of a 1 1 1 1 1 1 1 1 1 16;", WRONG, 23);
        fault("of a 1;part b a 0;", WRONG, 16);
        fault("of a 1;part b a 10;", WRONG, 16);
        fault("of a 3 5;add b a 2;", WRONG, 17);
        fault("of a 3 5;drop b a 8;", WRONG, 18);
    }

    private void farOfMultiples() {
        begin("6 FAR: (at the line's ;) a number above 1 of which all INTS of 'of' are multiples");
        for (int x = 2; x <= 15; x++) {
            String line = "of a " + x + " ";
            fault(line + ";", FAR, line.length());
        }
        fault("of a 6 10;", FAR, 9);
        fault("of a 6 15 12 9 3\n;", FAR, 17);
        fault("of a 14 7 14 7 14 7 14 7 14 7;", FAR, 29);
        fault("of a 2 4 8 10 12 14 6;", FAR, 21);
        text("of a 2 4 8 10 12 14 15;");
        text("of a 6 10 15;");
        text("of a 1;");
    }

    private void farByConductor() {
        begin("6 FAR: a SET with a CONDUCTOR above 200");
        text("of a 13 14;of b 14 15;meet c a b;drop d c 104;drop e d 195;");
        due("CONDUCTOR", s.about(4, 1), 196);
        due("a GENERATOR", s.generator(4, s.generator(4, NONE) - 1) >= 209 ? 1 : 0, 1);
        fault("of a 13 14;of b 14 15;meet c a b;drop d c 104;drop e d 195;drop f e 209;", FAR, 71);
    }

    private void farByGenerators() {
        begin("6 FAR: a SET with more than 24 GENERATORS");
        fault("of a 4 15;of b 7 11;meet c a b;", FAR, 30);
        fault(MEET_24 + "add d c 53;", FAR, 42);
        fault("of a 8 13;of b 9 11;meet c a b;drop d c 40;", FAR, 42);
        fault("of a 8 15;of b 11 14;meet c a b;part d c 2;", FAR, 42);
        fault("of a 5 11;of b 6 13;meet c a b;arf d c;", FAR, 38);
        fault("of a 9 10;of b 11 12;meet c a b;of d 11 13;meet e a d;sum f c e;", FAR, 63);
    }

    private void notFarWith24Generators() {
        begin("6 FAR: not with 24 GENERATORS");
        text("of a 7 15;of b 8 9;meet c a b;add d c 46;part e c 1;sum f c c;");
        for (int set = 2; set < 6; set++) {
            due("GENERATORS of " + set, s.generator(set, NONE), 24);
        }
        text("of a 7 15;of b 8 9;meet c a b;of d 10 11;meet e b d;sum f c e;");
        due("GENERATORS of the sum", s.generator(5, NONE), 24);
        text("of a 3 14;of b 8 11;meet c a b;arf d c;");
        due("GENERATORS of the arf", s.generator(3, NONE), 24);
        text("of a 5 13;of b 8 11;meet c a b;drop d c 30;");
        due("GENERATORS of the drop", s.generator(3, NONE), 24);
    }

    private void theFirstOfTheLateOnes() {
        begin("FAULTS of a text, the first by its place, of one line and of more");
        fault("of a 1;arf b c;of a 1;", NAME, 13);
        fault("of a 1;of a 1;arf b c;", TWICE, 10);
        fault("of a 2;of a 1;", FAR, 6);
        fault("of a 16;of b 2;", WRONG, 5);
        fault("of b 2;of a 16;", FAR, 6);
        fault("of a 1;sum a a x;", TWICE, 11);
        fault("of a 1;drop b x 99;", NAME, 14);
        fault("of a 4 16 0;", WRONG, 7);
    }

    /** A text of each FAULT, its number first. */
    private static final String[] FAULTY = {
        "1of", "2of x 1 1 1 1 1 1 1 1 1 1 1;", "3of x 1;of x 1;", "4of x 1;arf y z;", "5of x 1;of y 16;", "6of x 1;of y 2;",
    };

    private void aFaultChangesNothing() {
        begin("A text with a FAULT changes nothing but the tape");
        text("of a 3 5;of b 2 3;");
        yes("hold", s.hold(1));
        yes("drop", s.drop(0, 3));
        yes("drop", s.drop(1, 2));
        for (String faulty : FAULTY) {
            put(faulty.substring(1));
            due("read " + faulty, s.read(), faulty.charAt(0) - '0');
            due("tape", s.count(2), 0);
            due("SETS", s.count(0), 2);
            due("things to be undone", s.count(3), 2);
            due("SLOTS", s.count(4), 1);
            gaps(0, 1, 2, 3, 4, 7);
            gaps(1, 1, 2);
            yes("undo", s.undo());
            gaps(1, 1);
            yes("drop again", s.drop(1, 2));
        }
        yes("restore", s.restore(1));
        gaps(0, 1, 2, 4, 7);
        gaps(1, 1);
        begin("A text with a FAULT changes nothing: there were no SETS");
        for (String faulty : FAULTY) {
            put(faulty.substring(1));
            due("read " + faulty, s.read(), faulty.charAt(0) - '0');
            due("SETS", s.count(0), 0);
            due("gap", s.gap(0, NONE), NONE);
        }
    }

    private void noFaultReplacesAll() {
        begin("else it is in place of the one ahead; nothing can be undone, SLOTS hold nothing");
        for (String next : new String[] {"of c 4 5;", "", " ", "of a 3 5;of b 2 3;"}) {
            text("of a 3 5;of b 2 3;");
            yes("drop", s.drop(0, 3));
            for (int slot = 0; slot < 3; slot++) {
                yes("hold", s.hold(slot));
            }
            text(next);
            due("things to be undone", s.count(3), 0);
            due("SLOTS", s.count(4), 0);
            no("undo", s.undo());
            for (int slot = 0; slot < 3; slot++) {
                no("restore", s.restore(slot));
            }
            due("SETS", s.count(0), next.length() < 2 ? 0 : next.length() < 10 ? 1 : 2);
        }
        gaps(0, 1, 2, 4, 7);
        // names of the text ahead are free again, and not known any more
        text("of a 1;");
        fault("arf c a;", NAME, 6);
    }
}
