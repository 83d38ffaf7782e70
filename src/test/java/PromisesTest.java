/** Each promise of the document by examples: ordinary ones, the edges, wrong inputs. */
public final class PromisesTest extends Checks {
    public static void main(String[] args) {
        PromisesTest test = new PromisesTest();
        test.aNewObject();
        test.feedAndBack();
        test.readTokens();
        test.readSyntax();
        test.readRoom();
        test.readTwiceAndName();
        test.readWrong();
        test.readFar();
        test.readReplaces();
        test.madeSets();
        test.add();
        test.drop();
        test.undo();
        test.has();
        test.gapsAndGenerators();
        test.apery();
        test.stiffAndSpecial();
        test.about();
        test.ways();
        test.way();
        test.length();
        test.parts();
        test.tie();
        test.chain();
        test.greedyAndBlunder();
        test.kunz();
        test.childAndBelow();
        test.meeting();
        test.listAndListed();
        test.above();
        test.piece();
        test.good();
        test.same();
        test.holdAndRestore();
        test.count();
        test.examplesOfReadme();
        test.end();
    }

    private void aNewObject() {
        begin("1 a new object");
        for (int what = 0; what < 9; what++) {
            due("count " + what, s.count(what), what == 6 ? -2 : what == 8 ? NONE : 0);
        }
        due("place", s.place(), NONE);
        no("undo", s.undo());
        due("gap", s.gap(0, NONE), NONE);
        due("about", s.about(0, 0), Integer.MIN_VALUE);
    }

    private void feedAndBack() {
        begin("2 feed");
        due("feed", s.feed(0x6f662061, 0x20332035, 0x3b202020, BLANKS, BLANKS), 20);
        due("read", s.read(), 0);
        due("gaps", s.gap(0, NONE), 4);
        for (int i = 1; i <= 100; i++) {
            due("feed " + i, s.feed(-1, BLANKS, BLANKS, BLANKS, BLANKS), 20 * i);
        }
        due("feed a full tape", s.feed(1, 2, 3, 4, 5), NONE);
        due("bytes", s.count(2), 2000);
        due("back 19", s.back(19), 1981);
        due("feed 19 left", s.feed(1, 2, 3, 4, 5), NONE);
        due("bytes", s.count(2), 1981);
        begin("3 back");
        due("back 0", s.back(0), 0);
        due("back 1 of none", s.back(1), NONE);
        put("of a 1;of a 1;abcdef");
        due("back -1", s.back(-1), NONE);
        due("back least", s.back(Integer.MIN_VALUE), NONE);
        due("back 21", s.back(21), NONE);
        due("back greatest", s.back(Integer.MAX_VALUE), NONE);
        due("bytes", s.count(2), 20);
        due("back 13", s.back(13), 7);
        due("read", s.read(), 0);
        due("bytes", s.count(2), 0);
        put("abcdefghijklmnopqrst");
        due("back all", s.back(20), 0);
    }

    private void readTokens() {
        begin("4 read: tokens");
        text("");
        due("count 0", s.count(0), 0);
        text(" \t\r\n ");
        text("of a3 5;of b4 0005;");
        generators(0, 3, 5);
        generators(1, 4, 5);
        text("of\tabcdefgh\r3\n5;meet ofa abcdefgh abcdefgh;");
        due("count 0", s.count(0), 2);
        text(" ".repeat(1993) + "of a 1;");
        due("count 0", s.count(0), 1);
        text("of a " + "0".repeat(3) + "1" + " ".repeat(1990) + ";");
    }

    private void readSyntax() {
        begin("4, 5 read: SYNTAX");
        fault("of", 1, 2);
        fault("of a", 1, 4);
        fault("of a;", 1, 4);
        fault("of a 3 5", 1, 8);
        fault("of a 3 5   ", 1, 11);
        fault("of of 3;", 1, 3);
        fault("of a drop;", 1, 5);
        fault("of a 3 5;;", 1, 9);
        fault("of a 3 b;", 1, 7);
        fault("a 3 5;", 1, 0);
        fault("ofa 3 5;", 1, 0);
        fault("  Of a 3;", 1, 2);
        fault("of abcdefghi 3;", 1, 3);
        fault("of a 00001;", 1, 5);
        fault("of a 3,5;", 1, 6);
        fault("of a -3;", 1, 5);
        fault("of a 3\u000b5;", 1, 6);
        fault("of a 3\u00005;", 1, 6);
        fault("of \u00e9 3;", 1, 3);
        fault("of a \u00ff;", 1, 5);
        fault("sum a b;", 1, 7);
        fault("meet a b c d;", 1, 11);
        fault("arf a b c;", 1, 8);
        fault("arf a b 3;", 1, 8);
        fault("part a b;", 1, 8);
        fault("part a b 3 3;", 1, 11);
        fault("add a 3;", 1, 6);
        fault("drop a b c 3;", 1, 9);
        fault(" ".repeat(1999) + "o", 1, 1999);
        fault(" ".repeat(1998) + "of", 1, 2000);
        fault("of a 1; of a 1; x", 1, 16);
        fault("arf x y; of a 99; 1", 1, 18);
    }

    private void readRoom() {
        begin("4, 5 read: ROOM");
        String six = "of a 1;of b 1;of c 1;of d 1;of e 1;of f 1;";
        text(six);
        due("count 0", s.count(0), 6);
        fault(six + " of g 1;", 2, 43);
        fault(six + "sum", 2, 42);
        fault(six + "sum of", 2, 42);
        fault(six + "g", 1, 42);
        fault(six + ";", 1, 42);
        fault(six + "!", 1, 42);
        fault("of a 1;" + six, 2, 42);
        text("of a 1 2 3 4 5 6 7 8 9 10;");
        fault("of a 1 2 3 4 5 6 7 8 9 10 11;", 2, 26);
        fault("of a 1 2 3 4 5 6 7 8 9 10 11111;", 1, 26);
        fault("of a 16 0 3 4 5 6 7 8 9 10 11 of", 2, 27);
        fault("of a 1 of; of a 1 2 3 4 5 6 7 8 9 10 11;", 1, 7);
    }

    private void readTwiceAndName() {
        begin("4, 5 read: TWICE, NAME");
        fault("of a 3 5; of a 0;", 3, 13);
        fault("of a 3 5; of b 2 3; sum a x y;", 3, 24);
        fault("sum b b b;", 4, 6);
        fault("arf b a; of a 1;", 4, 6);
        fault("of a 1; sum b a c;", 4, 16);
        fault("of a 1; sum b c d;", 4, 14);
        fault("of a 1; drop b c 99;", 4, 15);
        text("of a 1; of ab 2 3; of abcdefgh 1; of bcdefgh 1; of aa 1;");
        fault("of a 0; of a 1;", 5, 5);
    }

    private void readWrong() {
        begin("4, 5 read: WRONG");
        fault("of a 0;", 5, 5);
        fault("of a 16;", 5, 5);
        fault("of a 3 16 0;", 5, 7);
        fault("of a 2 4 9999;", 5, 9);
        text("of a 1 15;");
        text("of a 3 5; part b a 1; part c a 9;");
        fault("of a 3 5; part b a 0;", 5, 19);
        fault("of a 3 5; part b a 10;", 5, 19);
        text("of a 3 5; add b a 7;");
        generators(1, 3, 5, 7);
        fault("of a 3 5; add b a 4;", 5, 18);
        fault("of a 3 5; add b a 8;", 5, 18);
        fault("of a 3 5 7; add b a 2;", 5, 20);
        fault("of a 1; add b a 1;", 5, 16);
        text("of a 3 5; drop b a 5;");
        generators(1, 3, 8, 10);
        fault("of a 3 5; drop b a 6;", 5, 19);
        fault("of a 3 5; drop b a 0;", 5, 19);
        fault("of a 3 5; drop b a 7;", 5, 19);
    }

    private void readFar() {
        begin("4, 5 read: FAR");
        fault("of a 2 4;", 6, 8);
        fault("of a 15;", 6, 7);
        fault("of a 9 6 15 ;", 6, 12);
        fault("of a 14 7 7; of a 1;", 6, 11);
        text("of a 6 10 15;");
        due("conductor", s.about(0, 1), 30);
        text("of a 14 15;");
        due("conductor", s.about(0, 1), 182);
        text("of a 7 15; of b 8 9; meet c a b;");
        due("generators", s.generator(2, NONE), 24);
        fault("of a 4 15; of b 7 11; meet c a b ;", 6, 33);
        fault("of a 4 15; of b 7 11; meet c a b; of c 1;", 6, 32);
    }

    private void readReplaces() {
        begin("4 read: what stays, what goes");
        text("of a 3 5; of b 2 3;");
        yes("drop", s.drop(0, 3));
        yes("hold", s.hold(0));
        yes("hold", s.hold(1));
        yes("hold", s.hold(2));
        fault("of c 2 4;", 6, 8);
        fault("of c", 1, 4);
        due("count 0", s.count(0), 2);
        due("count 3", s.count(3), 1);
        due("count 4", s.count(4), 3);
        generators(0, 5, 6, 8, 9);
        due("place", s.place(), 4);
        put("of");
        due("place before read", s.place(), 4);
        s.back(2);
        text("of c 4 5;");
        due("count 0", s.count(0), 1);
        due("count 3", s.count(3), 0);
        due("count 4", s.count(4), 0);
        no("undo", s.undo());
        no("restore", s.restore(1));
        text("");
        due("count 0", s.count(0), 0);
    }

    private void madeSets() {
        begin("4 read: the SETS");
        text("of a 3 5; of b 4 6 7; sum c a b; meet d a b; part e a 2; part f b 3;");
        generators(2, 3, 4, 5);
        gaps(3, 1, 2, 3, 4, 5, 7, 9);
        gaps(4, 1, 2);
        gaps(5, 1, 3);
        text("of a 3 5; arf b a; of c 4 6 13; arf d c; of e 1; arf f e;");
        generators(1, 3, 5, 7);
        generators(3, 4, 6, 13, 15);
        gaps(5);
        text("of a 14 15; arf b a; of c 4 10 13; arf d c; of e 9 12 14; arf f e;");
        due("conductor", s.about(1, 1), 14);
        gaps(3, 1, 2, 3, 5, 6, 7, 9, 11);
        gaps(5, 1, 2, 3, 4, 5, 6, 7, 8, 10, 11, 13);
    }

    private void add() {
        begin("6 add");
        text("of a 5 6 7 8 9; of b 1;");
        no("a SET -1", s.add(-1, 4));
        no("a SET 2", s.add(2, 4));
        no("stiff, but not special", s.add(0, 2));
        no("no gap", s.add(0, 5));
        no("0", s.add(0, 0));
        no("-1", s.add(0, -1));
        no("greatest", s.add(0, Integer.MAX_VALUE));
        no("of all", s.add(1, 1));
        yes("3", s.add(0, 3));
        gaps(0, 1, 2, 4);
        yes("4", s.add(0, 4));
        gaps(0, 1, 2);
        due("things", s.count(3), 2);
        // 24 generators of a SET of which one more gap may be put in, but that would make 25
        text("of a 7 15; of b 8 9; meet c a b;");
        int before = s.gap(2, NONE);
        int refused = 0;
        for (int i = s.special(2, NONE) - 1; i >= 0; i--) {
            if (!s.add(2, s.special(2, i))) {
                refused++;
            } else {
                yes("undo", s.undo());
            }
        }
        due("refused", refused > 0 ? 1 : 0, 1);
        due("gaps", s.gap(2, NONE), before);
        due("generators", s.generator(2, NONE), 24);
        due("things", s.count(3), 0);
    }

    private void drop() {
        begin("7 drop");
        text("of a 1;");
        no("a SET -1", s.drop(-1, 1));
        no("a SET 1", s.drop(1, 1));
        no("2", s.drop(0, 2));
        no("0", s.drop(0, 0));
        no("least", s.drop(0, Integer.MIN_VALUE));
        for (int x = 1; x < 24; x++) {
            yes("drop " + x, s.drop(0, x));
        }
        no("25 generators", s.drop(0, 24));
        due("generators", s.generator(0, NONE), 24);
        due("gaps", s.gap(0, NONE), 23);
        due("things", s.count(3), 23);
        text("of a 2 3;");
        for (int x = 3; x < 201; x += 2) {
            yes("drop " + x, s.drop(0, x));
        }
        due("conductor", s.about(0, 1), 200);
        no("conductor 202", s.drop(0, 201));
        due("conductor", s.about(0, 1), 200);
        generators(0, 2, 201);
        due("things", s.count(3), 40);
        text("of a 3 4 5;");
        for (int x = 4; x < 200; x += x % 3) {
            yes("drop " + x, s.drop(0, x));
        }
        due("conductor", s.about(0, 1), 200);
        no("conductor 201", s.drop(0, 200));
        no("conductor 203", s.drop(0, 202));
        generators(0, 3, 200, 202);
    }

    private void undo() {
        begin("8 undo");
        no("nothing", s.undo());
        text("of a 3 5; of b 1;");
        yes("add", s.add(0, 7));
        yes("drop", s.drop(1, 1));
        no("drop", s.drop(1, 1));
        yes("undo", s.undo());
        gaps(1);
        gaps(0, 1, 2, 4);
        yes("undo", s.undo());
        gaps(0, 1, 2, 4, 7);
        no("nothing left", s.undo());
        for (int i = 0; i < 41; i++) {
            yes("in and out", i % 2 == 0 ? s.add(0, 7) : s.drop(0, 7));
        }
        due("things", s.count(3), 40);
        for (int i = 0; i < 40; i++) {
            yes("undo " + i, s.undo());
            due("things", s.count(3), 39 - i);
        }
        no("undo 41", s.undo());
        gaps(0, 1, 2, 4);
    }

    private void has() {
        begin("9 has");
        text("of a 3 5; of b 1;");
        int[] want = {1, 0, 0, 1, 0, 1, 1, 0, 1, 1, 1};
        for (int x = 0; x < want.length; x++) {
            due("has " + x, s.has(0, x), want[x]);
        }
        due("has 9999", s.has(0, 9999), 1);
        due("has 10000", s.has(0, 10000), NONE);
        due("has -1", s.has(0, -1), NONE);
        due("has least", s.has(0, Integer.MIN_VALUE), NONE);
        due("of all", s.has(1, 1), 1);
        due("a SET 2", s.has(2, 0), NONE);
        due("a SET -1", s.has(-1, 0), NONE);
    }

    private void gapsAndGenerators() {
        begin("10, 11 gap, generator");
        text("of a 5 4 6 4 8; of b 1 7; of c 14 15;");
        gaps(0, 1, 2, 3, 7);
        generators(0, 4, 5, 6);
        gaps(1);
        generators(1, 1);
        generators(2, 14, 15);
        due("gaps", s.gap(2, NONE), 91);
        due("gap 90", s.gap(2, 90), 181);
        due("gap 91", s.gap(2, 91), NONE);
        due("gap of a SET 3", s.gap(3, NONE), NONE);
        due("generator of a SET -1", s.generator(-1, NONE), NONE);
    }

    private void apery() {
        begin("12 apery");
        text("of a 3 5; of b 1; of c 14 15;");
        int[] five = {0, 6, 12, 3, 9};
        for (int r = 0; r < 5; r++) {
            due("of 5 and " + r, s.apery(0, 5, r), five[r]);
        }
        due("of 8 and 7", s.apery(0, 8, 7), 15);
        due("of 200 and 199", s.apery(0, 200, 199), 199);
        due("of 200 and 181", s.apery(2, 200, 181), 381);
        due("of 201", s.apery(0, 201, 0), NONE);
        due("of 4", s.apery(0, 4, 0), NONE);
        due("of 0", s.apery(0, 0, 0), NONE);
        due("of -3", s.apery(0, -3, 0), NONE);
        due("rest 3", s.apery(0, 3, 3), NONE);
        due("rest -1", s.apery(0, 3, -1), NONE);
        due("of all, 1", s.apery(1, 1, 0), 0);
        due("of all, 7", s.apery(1, 7, 6), 6);
        due("a SET 3", s.apery(3, 3, 0), NONE);
    }

    private void stiffAndSpecial() {
        begin("13, 14 stiff, special");
        text("of a 5 6 7 8 9; of b 1; of c 3 5; of d 3 5 7;");
        row("stiff", i -> s.stiff(0, i), 1, 2, 3, 4);
        row("special", i -> s.special(0, i), 3, 4);
        row("stiff of all", i -> s.stiff(1, i));
        row("special of all", i -> s.special(1, i));
        row("stiff", i -> s.stiff(2, i), 7);
        row("special", i -> s.special(2, i), 7);
        row("stiff", i -> s.stiff(3, i), 2, 4);
        row("special", i -> s.special(3, i), 4);
        due("a SET 4", s.stiff(4, NONE), NONE);
        due("a SET -1", s.special(-1, NONE), NONE);
    }

    private void abouts(int set, int... want) {
        for (int what = 0; what < 8; what++) {
            due("about " + set + " " + what, s.about(set, what), want[what]);
        }
        due("about 8", s.about(set, 8), Integer.MIN_VALUE);
        due("about -1", s.about(set, -1), Integer.MIN_VALUE);
    }

    private void about() {
        begin("15 about");
        text("of a 3 5; of b 1; of c 3 4 5; of d 5 6 7 8 9; of e 4 5 6; of f 3 5 7;");
        abouts(0, 7, 8, 1, 0, 0, 4, 1, 4);
        abouts(1, -1, 0, 1, 0, 0, 0, 0, 0);
        abouts(2, 2, 3, 0, 1, 0, 1, 3, 0);
        abouts(3, 4, 5, 0, 0, 0, 1, 10, 0);
        abouts(4, 7, 8, 1, 0, 4, 4, 2, 3);
        abouts(5, 4, 5, 0, 1, 1, 2, 3, 1);
        due("a SET 6", s.about(6, 0), Integer.MIN_VALUE);
        due("a SET -1", s.about(-1, 0), Integer.MIN_VALUE);
    }

    private void ways() {
        begin("16 ways");
        text("of a 2 3; of b 1; of c 6 9 11 14;");
        int[] want = {1, 0, 1, 1, 1, 1, 2, 1, 2, 2};
        for (int x = 0; x < want.length; x++) {
            due("ways " + x, s.ways(0, x), want[x]);
        }
        due("ways 150", s.ways(0, 150), 26);
        due("ways 151", s.ways(0, 151), NONE);
        due("ways -1", s.ways(0, -1), NONE);
        due("ways of all", s.ways(1, 150), 1);
        due("ways 20", s.ways(2, 20), 2);
        due("ways 10", s.ways(2, 10), 0);
        due("a SET 3", s.ways(3, 0), NONE);
    }

    private void waysAre(int set, int x, int[]... want) {
        for (int i = 0; i < want.length; i++) {
            for (int k = 0; k < want[i].length; k++) {
                due("way " + x + " " + i + " " + k, s.way(set, x, i, k), want[i][k]);
            }
            due("way behind the last generator", s.way(set, x, i, want[i].length), NONE);
        }
        due("way behind the last", s.way(set, x, want.length, 0), NONE);
    }

    private void way() {
        begin("17 way");
        text("of a 2 3; of b 4 5 6; of c 6 9 11 14;");
        waysAre(0, 0, new int[] {0, 0});
        waysAre(0, 1);
        waysAre(0, 12, new int[] {6, 0}, new int[] {3, 2}, new int[] {0, 4});
        waysAre(1, 16, new int[] {4, 0, 0}, new int[] {1, 0, 2}, new int[] {0, 2, 1});
        waysAre(2, 20, new int[] {1, 0, 0, 1}, new int[] {0, 1, 1, 0});
        due("way -1", s.way(0, 12, -1, 0), NONE);
        due("generator -1", s.way(0, 12, 0, -1), NONE);
        due("number 151", s.way(0, 151, 0, 0), NONE);
        due("number -1", s.way(0, -1, 0, 0), NONE);
        due("way 25 of 150", s.way(0, 150, 25, 1), 50);
        due("a SET 3", s.way(3, 0, 0, 0), NONE);
    }

    private void lengths(int set, int x, int... want) {
        for (int what = 0; what < 4; what++) {
            due("length " + x + " " + what, s.length(set, x, what), want[what]);
        }
        due("length 4", s.length(set, x, 4), NONE);
        due("length -1", s.length(set, x, -1), NONE);
    }

    private void length() {
        begin("18 length");
        text("of a 3 5; of b 1; of c 2 15;");
        lengths(0, 0, 0, 0, 1, 0);
        lengths(0, 8, 2, 2, 1, 0);
        lengths(0, 15, 3, 5, 2, 2);
        lengths(0, 30, 6, 10, 3, 2);
        lengths(0, 7, -2, -2, -2, -2);
        lengths(1, 150, 150, 150, 1, 0);
        lengths(2, 150, 10, 75, 6, 13);
        due("number 151", s.length(0, 151, 0), NONE);
        due("number -1", s.length(0, -1, 0), NONE);
        due("a SET 3", s.length(3, 0, 0), NONE);
    }

    private void parts() {
        begin("19 parts");
        text("of a 3 5; of b 4 5 6; of c 3 4 5;");
        due("15", s.parts(0, 15), 2);
        due("30", s.parts(0, 30), 1);
        due("3", s.parts(0, 3), 1);
        due("0", s.parts(0, 0), 0);
        due("7", s.parts(0, 7), 0);
        due("10", s.parts(1, 10), 2);
        due("12", s.parts(1, 12), 2);
        due("16", s.parts(1, 16), 1);
        due("8", s.parts(2, 8), 2);
        due("900", s.parts(0, 900), 1);
        due("901", s.parts(0, 901), NONE);
        due("-1", s.parts(0, -1), NONE);
        due("a SET 3", s.parts(3, 0), NONE);
    }

    private void tie() {
        begin("20 tie");
        text("of a 3 5; of b 4 5 6; of c 3 4 5; of d 1; of e 14 15;");
        row("tie 0", i -> s.tie(0, i), 15);
        row("tie 1", i -> s.tie(1, i), 10, 12);
        row("tie 2", i -> s.tie(2, i), 8, 9, 10);
        row("tie 3", i -> s.tie(3, i));
        row("tie 4", i -> s.tie(4, i), 210);
        yes("drop", s.drop(4, 14));
        due("ties after a change", s.tie(4, NONE) > 1 ? 1 : 0, 1);
        yes("undo", s.undo());
        row("tie 4", i -> s.tie(4, i), 210);
        due("a SET 5", s.tie(5, NONE), NONE);
        text("of a 13 15; of b 14 15; of c 13 14;");
        for (int set = 0; set < 6; set++) {
            due("tie of " + set % 3, s.tie(set % 3, 0), set % 3 == 0 ? 195 : set % 3 == 1 ? 210 : 182);
        }
        text("of a 2 3;");
        for (int x = 3; x < 201; x += 2) {
            yes("drop " + x, s.drop(0, x));
        }
        row("tie 0", i -> s.tie(0, i), 402);
    }

    private void chain() {
        begin("21 chain");
        text("of a 3 5; of b 1; of c 2 3; of d 4 5 6; of e 1; drop f e 1;");
        due("15", s.chain(0, 15), 5);
        due("30", s.chain(0, 30), 5);
        due("8", s.chain(0, 8), 0);
        due("0", s.chain(0, 0), 0);
        due("7", s.chain(0, 7), -2);
        due("150 of all", s.chain(1, 150), 0);
        due("150", s.chain(2, 150), 3);
        due("10", s.chain(3, 10), 2);
        due("12", s.chain(3, 12), 3);
        due("16", s.chain(3, 16), 3);
        due("20", s.chain(3, 20), 3);
        due("150", s.chain(3, 150), -2);
        due("151", s.chain(0, 151), NONE);
        due("-1", s.chain(0, -1), NONE);
        due("a SET 6", s.chain(6, 0), NONE);
        text("of a 5 7 8 11; of b 6 7 15;");
        due("60 ways", s.ways(0, 88), 60);
        due("60 ways", s.chain(0, 88), 3);
        due("61 ways", s.ways(0, 89), 61);
        due("61 ways", s.chain(0, 89), -2);
        // 6 and 15, or 7 three times: the one ahead is shorter
        due("21", s.chain(1, 21), 3);
    }

    private void greedyAndBlunder() {
        begin("22 greedy");
        text("of a 3 5; of b 1; of c 4 9 11; of d 2 3; of e 14 15;");
        int[][] want = {{0, 1, 0, 0}, {9, 0, 2, 1}, {8, 1, 2, 0}, {15, 1, 3, 0}, {1, 0, 0, 1}, {14, 0, 3, 1}, {150, 1, 30, 0}};
        for (int[] row : want) {
            for (int what = 0; what < 3; what++) {
                due("greedy " + row[0] + " " + what, s.greedy(0, row[0], what), row[what + 1]);
            }
        }
        due("what 3", s.greedy(0, 9, 3), NONE);
        due("what -1", s.greedy(0, 9, -1), NONE);
        due("151", s.greedy(0, 151, 0), NONE);
        due("-1", s.greedy(0, -1, 0), NONE);
        due("a SET 5", s.greedy(5, 0, 0), NONE);
        begin("23 blunder");
        text("of a 3 5; of b 1; of c 4 9 11; of d 2 3; of e 14 15;");
        due("3 5", s.blunder(0), 6);
        due("all", s.blunder(1), -2);
        due("4 9 11", s.blunder(2), 12);
        due("2 3", s.blunder(3), 4);
        due("14 15", s.blunder(4), 28);
        due("a SET -1", s.blunder(-1), NONE);
        due("a SET 5", s.blunder(5), NONE);
        text("of a 2 3;");
        for (int x = 3; x < 149; x += 2) {
            yes("drop " + x, s.drop(0, x));
        }
        due("2 149", s.blunder(0), 150);
        yes("drop 149", s.drop(0, 149));
        due("2 151", s.blunder(0), -2);
    }

    private void kunz() {
        begin("24 kunz");
        text("of a 3 5; of b 1; of c 4 5 6;");
        due("1", s.kunz(0, 1), 3);
        due("2", s.kunz(0, 2), 1);
        due("3", s.kunz(0, 3), NONE);
        due("0", s.kunz(0, 0), NONE);
        due("-1", s.kunz(0, -1), NONE);
        due("of all", s.kunz(1, 0), NONE);
        due("of all", s.kunz(1, 1), NONE);
        due("4 5 6: 1", s.kunz(2, 1), 1);
        due("4 5 6: 2", s.kunz(2, 2), 1);
        due("4 5 6: 3", s.kunz(2, 3), 2);
        due("a SET 3", s.kunz(3, 1), NONE);
    }

    private void childAndBelow() {
        begin("25, 26 child, below");
        text("of a 3 5; of b 1; of c 2 3; of d 3 4 5; of e 3 5 7;");
        row("child 0", i -> s.child(0, i));
        row("child 1", i -> s.child(1, i), 1);
        row("child 2", i -> s.child(2, i), 2, 3);
        row("child 3", i -> s.child(3, i), 3, 4, 5);
        row("child 4", i -> s.child(4, i), 5, 7);
        due("a SET 5", s.child(5, NONE), NONE);
        int[][] want = {{1, 0, 0}, {1, 1, 2}, {1, 2, 4}, {1, 3, 6}, {1, 2, 2}};
        for (int set = 0; set < 5; set++) {
            for (int n = 0; n < 3; n++) {
                due("below " + set + " " + n, s.below(set, n), want[set][n]);
            }
        }
        due("below 3", s.below(0, 3), NONE);
        due("below -1", s.below(0, -1), NONE);
        due("a SET 5", s.below(5, 0), NONE);
        text("of a 1;");
        for (int x = 1; x < 24; x++) {
            s.drop(0, x);
        }
        due("below 1", s.below(0, 1), 24);
        // without 24 + k: the 23 - k above it; and 48, 49 beside for k 0 (so more than 24), 49 for k 1
        due("below 2", s.below(0, 2), 23 * 24 / 2 + 3);
    }

    private void meets(int set, int other, int genus, int first, int second) {
        due("meeting " + set + " " + other, s.meeting(set, other, 0), genus);
        due("meeting " + set + " " + other, s.meeting(set, other, 1), first);
        due("meeting " + set + " " + other, s.meeting(set, other, 2), second);
    }

    private void meeting() {
        begin("27 meeting");
        text("of a 3 5; of b 1; of c 4 5 6; of d 3 5 7; of e 14 15;");
        meets(0, 0, 4, 0, 0);
        meets(0, 1, 0, 4, 0);
        meets(1, 0, 0, 0, 4);
        meets(0, 2, 2, 2, 2);
        meets(0, 3, 3, 1, 0);
        meets(3, 0, 3, 0, 1);
        meets(4, 2, 3, 88, 1);
        meets(1, 1, 0, 0, 0);
        due("what 3", s.meeting(0, 0, 3), NONE);
        due("what -1", s.meeting(0, 0, -1), NONE);
        due("a SET 5", s.meeting(5, 0, 0), NONE);
        due("other -1", s.meeting(0, -1, 0), NONE);
    }

    private void listAndListed() {
        begin("28 list");
        int[] sizes = {1, 1, 2, 4, 7, 12, 23, 39, 67};
        for (int genus = 0; genus < sizes.length; genus++) {
            due("list " + genus, s.list(genus, NONE, 99), sizes[genus]);
            due("behind", s.list(genus, sizes[genus], 0), NONE);
            due("behind", s.list(genus, sizes[genus], NONE), NONE);
            due("generators of the last", s.list(genus, sizes[genus] - 1, NONE), genus + 1);
            due("the last of them", s.list(genus, sizes[genus] - 1, genus), 2 * genus + 1);
        }
        due("genus 9", s.list(9, NONE, NONE), NONE);
        due("genus -1", s.list(-1, NONE, NONE), NONE);
        int[][] three = {{2, 7}, {3, 4}, {3, 5, 7}, {4, 5, 6, 7}};
        for (int i = 0; i < three.length; i++) {
            int at = i;
            row("list 3 " + i, k -> s.list(3, at, k), three[i]);
        }
        due("i -2", s.list(3, -2, 0), NONE);
        due("genus 8, the first", s.list(8, 0, 1), 17);
        begin("29 listed");
        text("of a 3 5; of b 1; of c 2 7; of d 4 5 6 7; of e 3 5 7; of f 14 15;");
        int[] want = {1, 0, 0, 3, 2, -2};
        for (int set = 0; set < 6; set++) {
            due("listed " + set, s.listed(set), want[set]);
        }
        due("listed 6", s.listed(6), NONE);
        due("listed -1", s.listed(-1), NONE);
    }

    private void above() {
        begin("30 above");
        text("of a 3 5; of b 1; of c 2 3; of d 3 4 5; of e 2 15; of f 3 11;");
        int[] want = {5, 1, 2, 3, 8, -2};
        for (int set = 0; set < 6; set++) {
            due("above " + set, s.above(set), want[set]);
        }
        due("above 6", s.above(6), NONE);
        text("of a 2 15; of b 2 15; drop c b 15; drop d c 17;");
        due("genus", s.gap(2, NONE), 8);
        due("above, genus 8", s.above(2), 9);
        due("listed, genus 8", s.listed(2), 0);
        row("piece, genus 8", i -> s.piece(2, i), 0);
        row("good, genus 8", i -> s.good(2, i), 3);
        due("above, genus 7", s.above(1), 8);
        due("listed, genus 7", s.listed(1), 0);
        due("above, genus 9", s.above(3), -2);
        due("listed, genus 9", s.listed(3), -2);
        due("piece, genus 9", s.piece(3, NONE), -2);
        due("good, genus 9", s.good(3, NONE), -2);
    }

    private void piece() {
        begin("31 piece");
        text("of a 3 5; of b 1; of c 4 5 6 7; of d 5 6 7 8 9; of e 3 11; of f 3 5 7;");
        row("piece 0", i -> s.piece(0, i), 0);
        row("piece 1", i -> s.piece(1, i), 0);
        // gaps 1 2 3: symmetric or nearly so are 2 3 .. (6), 3 4 .. (4) and 2 5 .. (2); 4 and 2 have no gap in common
        row("piece 2", i -> s.piece(2, i), 2, 4);
        row("piece 5", i -> s.piece(5, i), 0);
        due("genus above 8", s.piece(4, NONE), -2);
        due("genus above 8", s.piece(4, 99), -2);
        due("a SET 6", s.piece(6, NONE), NONE);
        due("a SET -1", s.piece(-1, 0), NONE);
        // gaps 1 2 3 4: above it 3 5 7 (nearly symmetric, 4), 4 5 6 7 with 3 (gaps 1 2: 12), 2 5 (gaps 1 3: 10)
        row("piece 3", i -> s.piece(3, i), 4, 10);
    }

    private void good() {
        begin("32 good");
        text("of a 3 5; of b 1; of c 2 3; of d 3 4 5; of e 2 5; of f 3 11;");
        row("good 0", i -> s.good(0, i), 2);
        row("good 1", i -> s.good(1, i));
        row("good 2", i -> s.good(2, i));
        row("good 3", i -> s.good(3, i), 2);
        row("good 4", i -> s.good(4, i), 3);
        due("genus above 8", s.good(5, NONE), -2);
        due("genus above 8", s.good(5, 0), -2);
        due("a SET 6", s.good(6, NONE), NONE);
    }

    private void same() {
        begin("33 same");
        text("of a 3 5; of b 5 3; of c 1; of d 4 5 6;");
        due("alike", s.same(0, 1), 1);
        due("itself", s.same(0, 0), 1);
        due("has all", s.same(2, 0), 2);
        due("is in it", s.same(0, 2), 3);
        due("neither", s.same(0, 3), 0);
        due("a SET 4", s.same(4, 0), NONE);
        due("other -1", s.same(0, -1), NONE);
    }

    private void holdAndRestore() {
        begin("34, 35 hold, restore");
        no("hold -1", s.hold(-1));
        no("hold 3", s.hold(3));
        no("restore 0", s.restore(0));
        text("of a 3 5; of b 1;");
        yes("hold 0", s.hold(0));
        yes("drop", s.drop(0, 3));
        yes("hold 2", s.hold(2));
        due("slots", s.count(4), 2);
        no("restore 1", s.restore(1));
        no("restore -1", s.restore(-1));
        no("restore 3", s.restore(3));
        due("things", s.count(3), 1);
        put("of c");
        yes("restore 0", s.restore(0));
        due("tape stays", s.count(2), 4);
        due("things", s.count(3), 0);
        generators(0, 3, 5);
        no("undo", s.undo());
        yes("drop", s.drop(0, 5));
        yes("restore 0 again", s.restore(0));
        generators(0, 3, 5);
        yes("restore 2", s.restore(2));
        generators(0, 5, 6, 8, 9);
        yes("hold 0 anew", s.hold(0));
        yes("add", s.add(0, 3));
        yes("restore 0", s.restore(0));
        generators(0, 5, 6, 8, 9);
        due("slots", s.count(4), 2);
    }

    private void count() {
        begin("36 count");
        text("of a 3 5; of b 1; of c 3 4 5; of d 5 6 7 8 9;");
        int[] want = {4, 10, 0, 0, 0, 7, 7, 0};
        for (int what = 0; what < 8; what++) {
            due("count " + what, s.count(what), want[what]);
        }
        due("count 8", s.count(8), NONE);
        due("count -1", s.count(-1), NONE);
        due("count least", s.count(Integer.MIN_VALUE), NONE);
        text("of a 1; of b 1;");
        due("greatest TOP", s.count(6), -1);
        due("lone", s.count(5), 3);
        text("of a 3 5; of b 4 5 6; of c 5 6 7 8 9;");
        due("gaps of all", s.count(7), 2);
        due("lone", s.count(5), 3);
        yes("hold", s.hold(1));
        yes("drop", s.drop(0, 3));
        due("gaps of all", s.count(7), 3);
        due("slots", s.count(4), 1);
        due("things", s.count(3), 1);
        due("of each", s.count(1), 4 + 4 + 4 + 1);
    }

    /** What README.md tells of the first steps: its example, call by call. */
    private void examplesOfReadme() {
        begin("README.md");
        due("feed", s.feed(0x6f662061, 0x20332035, 0x3b202020, 0x20202020, 0x20202020), 20);
        due("back", s.back(11), 9);
        due("read", s.read(), 0);
        due("how many gaps", s.gap(0, StepSums.NONE), 4);
        due("the last", s.gap(0, 3), 7);
        due("one too far", s.gap(0, 4), NONE);
        due("no such set", s.about(1, 0), Integer.MIN_VALUE);
        due("a way of 15", s.way(0, 15, 1, 1), 3);
        due("no way of 7", s.length(0, 7, 0), -2);
        yes("hold", s.hold(0));
        yes("drop", s.drop(0, 3));
        due("how many gaps", s.gap(0, StepSums.NONE), 5);
        yes("undo", s.undo());
        no("undo", s.undo());
        yes("drop", s.drop(0, 5));
        yes("restore", s.restore(0));
        due("how many gaps", s.gap(0, StepSums.NONE), 4);
        fault("of a 3 6;", 6, 8);
        due("the SETS are as they were", s.gap(0, StepSums.NONE), 4);
        text("of a 3 5;sum b a a;meet c a b;arf d a;part e a 2;add f a 7;");
        generators(3, 3, 5, 7);
        generators(4, 3, 4, 5);
        generators(5, 3, 5, 7);
        text("of a 3 5;drop c a 3;");
        gaps(1, 1, 2, 3, 4, 7);
    }
}
