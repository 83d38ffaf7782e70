/** The promises 1 to 36: of each call the ranges of what it is given, from both sides, and what it refuses. */
public final class CallEdgesTest extends Checks {
    private static final int LEAST = Integer.MIN_VALUE;
    private static final int MOST = Integer.MAX_VALUE;
    /** No SET has such a number, however many there are. */
    private static final int[] NO_SETS = {-1, -2, 6, 7, 256, 65536, LEAST, MOST};

    public static void main(String[] args) {
        CallEdgesTest test = new CallEdgesTest();
        test.noSets();
        test.noSuchSet();
        test.feedTheHighestByteFirst();
        test.feedUpTo2000();
        test.backNotSoMany();
        test.readEmptiesTheTape();
        test.placeOfTheLatest();
        test.addRefused();
        test.addWith24Generators();
        test.dropRefused();
        test.dropUpToConductor200();
        test.dropWith24Generators();
        test.undoTheLast();
        test.undo40();
        test.undoRoundTheRow();
        test.has0To9999();
        test.rowsFrom0On();
        test.apery1To200();
        test.about0To7();
        test.ways0To150();
        test.way0To150();
        test.length0To150();
        test.parts0To900();
        test.ties();
        test.chain0To150();
        test.chainUpTo60Ways();
        test.greedy0To150();
        test.asksWith24Generators();
        test.kunzRests();
        test.below0To2();
        test.meeting0To2();
        test.list0To8();
        test.listed();
        test.genusUpTo8();
        test.same();
        test.hold0To2();
        test.restoreWhatIsHeld();
        test.restoreStaysThere();
        test.count0To7();
        test.countOfOneAndSix();
        test.end();
    }

    /** What calls answer of a SET that there is not. */
    private void asksNone(int set) {
        due("has " + set, s.has(set, 0), NONE);
        due("gap " + set, s.gap(set, NONE), NONE);
        due("gap 0 " + set, s.gap(set, 0), NONE);
        due("generator " + set, s.generator(set, NONE), NONE);
        due("generator 0 " + set, s.generator(set, 0), NONE);
        due("apery " + set, s.apery(set, 1, 0), NONE);
        due("stiff " + set, s.stiff(set, NONE), NONE);
        due("special " + set, s.special(set, NONE), NONE);
        for (int what = -1; what < 9; what++) {
            due("about " + set + " " + what, s.about(set, what), LEAST);
        }
        due("ways " + set, s.ways(set, 0), NONE);
        due("way " + set, s.way(set, 0, 0, 0), NONE);
        due("length " + set, s.length(set, 0, 0), NONE);
        due("parts " + set, s.parts(set, 0), NONE);
        due("tie " + set, s.tie(set, NONE), NONE);
        due("chain " + set, s.chain(set, 0), NONE);
        due("greedy " + set, s.greedy(set, 0, 0), NONE);
        due("blunder " + set, s.blunder(set), NONE);
        due("kunz " + set, s.kunz(set, 1), NONE);
        due("child " + set, s.child(set, NONE), NONE);
        due("below " + set, s.below(set, 0), NONE);
        due("meeting " + set, s.meeting(set, 0, 0), NONE);
        due("meeting with " + set, s.meeting(0, set, 0), NONE);
        due("listed " + set, s.listed(set), NONE);
        due("above " + set, s.above(set), NONE);
        due("piece " + set, s.piece(set, NONE), NONE);
        due("good " + set, s.good(set, NONE), NONE);
        due("same " + set, s.same(set, 0), NONE);
        due("same with " + set, s.same(0, set), NONE);
        no("add " + set, s.add(set, 1));
        no("drop " + set, s.drop(set, 1));
    }

    private void noSets() {
        for (int set : new int[] {0, 1, 5, -1, MOST}) {
            begin("1 A new object: no SETS");
            asksNone(set);
            due("SETS", s.count(0), 0);
            due("place", s.place(), NONE);
            no("undo", s.undo());
            no("restore", s.restore(0));
            due("things", s.count(3), 0);
        }
        begin("1 A new object: no SETS; LIST needs none");
        due("list", s.list(8, NONE, 0), 67);
        due("list", s.list(8, 66, 8), 17);
    }

    private void noSuchSet() {
        for (int set : NO_SETS) {
            begin("6 to 33: no such SET");
            text("of a 1;of b 3 5;of c 1;of d 1;of e 1;of f 1;");
            asksNone(set);
            due("things", s.count(3), 0);
        }
        begin("6 to 33: no such SET, of two");
        text("of a 1;of b 3 5;");
        asksNone(2);
        asksNone(-1);
        due("the last", s.gap(1, NONE), 4);
        due("the first", s.gap(0, NONE), 0);
    }

    private void feedTheHighestByteFirst() {
        begin("2 feed: twenty bytes, the highest of a first, come behind the tape");
        due("feed", s.feed(0x6f662061, 0x20332035, 0x3b6f6620, 0x62203220, 0x333b6172), 20);
        due("feed", s.feed(0x66206320, 0x613b2020, 0x20202020, 0x20202020, 0x20202020), 40);
        due("read", s.read(), 0);
        generators(0, 3, 5);
        generators(1, 2, 3);
        generators(2, 3, 5, 7);
        for (int at = 0; at < 20; at++) {
            int[] fours = {BLANKS, BLANKS, BLANKS, BLANKS, BLANKS};
            fours[at / 4] ^= (0x20 ^ 0xff) << 8 * (3 - at % 4);
            due("feed", s.feed(fours[0], fours[1], fours[2], fours[3], fours[4]), 20);
            due("read", s.read(), 1);
            due("place of byte 255", s.place(), at);
        }
        due("zeros", s.feed(0, 0, 0, 0, 0), 20);
        due("read", s.read(), 1);
        due("place", s.place(), 0);
    }

    private void feedUpTo2000() {
        begin("2 feed: NONE, and nothing comes, if it would have more than 2,000");
        for (int i = 1; i <= 99; i++) {
            s.feed(BLANKS, BLANKS, BLANKS, BLANKS, BLANKS);
        }
        due("bytes", s.count(2), 1980);
        due("back", s.back(1), 1979);
        due("feed", s.feed(BLANKS, BLANKS, BLANKS, BLANKS, BLANKS), 1999);
        due("feed one too much", s.feed(-1, -1, -1, -1, -1), NONE);
        due("bytes", s.count(2), 1999);
        due("back", s.back(18), 1981);
        due("feed one too much", s.feed(-1, -1, -1, -1, -1), NONE);
        due("bytes", s.count(2), 1981);
        due("back", s.back(1), 1980);
        due("feed", s.feed(BLANKS, BLANKS, BLANKS, BLANKS, BLANKS), 2000);
        due("feed a full tape", s.feed(-1, -1, -1, -1, -1), NONE);
        due("bytes", s.count(2), 2000);
        due("read: nothing came", s.read(), 0);
        due("bytes", s.count(2), 0);
        due("feed", s.feed(BLANKS, BLANKS, BLANKS, BLANKS, BLANKS), 20);
    }

    private void backNotSoMany() {
        begin("3 back: NONE, and nothing goes, if it has not so many, or n is below 0");
        due("0 of none", s.back(0), 0);
        due("1 of none", s.back(1), NONE);
        due("-1 of none", s.back(-1), NONE);
        put("of a 3 5; of b 2 3;!");
        int[] refused = {21, 22, 2000, 2001, MOST, -1, -20, LEAST};
        for (int n : refused) {
            due("back " + n, s.back(n), NONE);
            due("bytes", s.count(2), 20);
        }
        due("0", s.back(0), 20);
        due("1", s.back(1), 19);
        due("20 of 19", s.back(20), NONE);
        due("9", s.back(9), 10);
        due("read", s.read(), 0);
        due("SETS", s.count(0), 1);
        put("of a 3 5; of b 2 3;!");
        due("all", s.back(20), 0);
        due("read", s.read(), 0);
        due("SETS", s.count(0), 0);
    }

    private void readEmptiesTheTape() {
        begin("4 read: The tape, which is empty then, is read: 0, or the number of its FAULT");
        String[] texts = {"of a 1;", "of", "of a 1 1 1 1 1 1 1 1 1 1 1;", "of a 1;of a 1;", "arf a b;", "of a 16;", "of a 2;"};
        for (int fault = 0; fault < texts.length; fault++) {
            put(texts[fault]);
            due("bytes", s.count(2), texts[fault].length());
            due("read " + texts[fault], s.read(), fault);
            due("bytes", s.count(2), 0);
            due("back", s.back(1), NONE);
            due("read what is empty", s.read(), 0);
            due("SETS", s.count(0), 0);
        }
    }

    private void placeOfTheLatest() {
        begin("5 place: The byte of the latest read()'s FAULT; NONE without");
        due("without a read", s.place(), NONE);
        put("of a 16;");
        due("without a read", s.place(), NONE);
        due("read", s.read(), 5);
        due("place", s.place(), 5);
        due("place once more", s.place(), 5);
        put("!");
        due("ahead of the read", s.place(), 5);
        s.back(1);
        due("ahead of the read", s.place(), 5);
        put("!");
        due("read", s.read(), 1);
        due("the byte 0", s.place(), 0);
        put("of a 3 5;");
        due("read", s.read(), 0);
        due("without a FAULT", s.place(), NONE);
        fault("arf b a;", 4, 6);
        s.drop(0, 3);
        s.undo();
        s.hold(0);
        s.restore(0);
        due("the latest read's still", s.place(), 6);
        due("read of nothing", s.read(), 0);
        due("without a FAULT", s.place(), NONE);
    }

    private void addRefused() {
        begin("6 add: false, and nothing happens: it is none, no such SET");
        text("of a 3 7 11;of b 1;of c 3 5;");
        yes("hold", s.hold(0));
        int[] refused = {4, 1, 2, 5, 0, 3, 7, 9, 10, 16, -4, -8, 399, 400, 401, 9999, 1 << 30, LEAST, LEAST + 8, MOST};
        for (int x : refused) {
            no("add " + x, s.add(0, x));
            no("add to all " + x, s.add(1, x));
        }
        gaps(0, 1, 2, 4, 5, 8);
        gaps(1);
        due("things", s.count(3), 0);
        yes("8", s.add(0, 8));
        no("8 once more", s.add(0, 8));
        gaps(0, 1, 2, 4, 5);
        gaps(2, 1, 2, 4, 7);
        due("things", s.count(3), 1);
        yes("4", s.add(0, 4));
        yes("5", s.add(0, 5));
        yes("2", s.add(0, 2));
        yes("1", s.add(0, 1));
        gaps(0);
        due("things", s.count(3), 5);
    }

    private void addWith24Generators() {
        begin("6 add: false: the SET would have more than 24 GENERATORS");
        text("of a 7 15;of b 8 9;meet c a b;");
        due("GENERATORS", s.generator(2, NONE), 24);
        int genus = s.gap(2, NONE);
        no("53: 25 GENERATORS", s.add(2, 53));
        due("GENERATORS", s.generator(2, NONE), 24);
        due("53", s.has(2, 53), 0);
        due("GENUS", s.gap(2, NONE), genus);
        due("things", s.count(3), 0);
        yes("46: 24 GENERATORS", s.add(2, 46));
        due("GENERATORS", s.generator(2, NONE), 24);
        due("GENUS", s.gap(2, NONE), genus - 1);
        yes("undo", s.undo());
        due("GENUS", s.gap(2, NONE), genus);
        due("46", s.has(2, 46), 0);
    }

    private void dropRefused() {
        begin("7 drop: false, and nothing happens: it is none, no such SET");
        text("of a 3 7 11;of b 1;");
        int[] refused = {0, 1, 2, 4, 6, 8, 9, 10, 14, 18, -3, 399, 400, 9999, LEAST, LEAST + 3, MOST};
        for (int x : refused) {
            no("drop " + x, s.drop(0, x));
            no("drop of all", s.drop(1, x == 1 ? 2 : x));
        }
        gaps(0, 1, 2, 4, 5, 8);
        gaps(1);
        due("things", s.count(3), 0);
        yes("7", s.drop(0, 7));
        no("7 once more", s.drop(0, 7));
        gaps(0, 1, 2, 4, 5, 7, 8);
        yes("1", s.drop(1, 1));
        no("1 once more", s.drop(1, 1));
        gaps(1, 1);
        due("things", s.count(3), 2);
    }

    private void dropUpToConductor200() {
        begin("7 drop: false: the SET would have a CONDUCTOR above 200");
        text("of a 2 3;");
        for (int x = 3; x < 201; x += 2) {
            yes("drop " + x, s.drop(0, x));
        }
        due("CONDUCTOR", s.about(0, 1), 200);
        no("CONDUCTOR 202", s.drop(0, 201));
        due("things", s.count(3), 40);
        due("201", s.has(0, 201), 1);
        yes("a GENERATOR below TOP: no GENERATOR any more", s.drop(0, 2));
        due("CONDUCTOR", s.about(0, 1), 200);
        generators(0, 4, 6, 201, 203);
        no("CONDUCTOR 204", s.drop(0, 203));
        yes("4", s.drop(0, 4));
        generators(0, 6, 8, 10, 201, 203, 205);
        begin("7 drop: CONDUCTOR 200 is not above 200, 201 is");
        text("of a 3 4 5;");
        for (int x = 4; x < 200; x += x % 3) {
            yes("drop " + x, s.drop(0, x));
        }
        due("CONDUCTOR", s.about(0, 1), 200);
        no("CONDUCTOR 201", s.drop(0, 200));
        no("CONDUCTOR 203", s.drop(0, 202));
        due("TOP", s.about(0, 0), 199);
        generators(0, 3, 200, 202);
    }

    private void dropWith24Generators() {
        begin("7 drop: false: the SET would have more than 24 GENERATORS");
        text("of a 5 13;of b 8 11;meet c a b;of d 8 13;of e 9 11;meet f d e;");
        yes("30: 24 GENERATORS", s.drop(2, 30));
        due("GENERATORS", s.generator(2, NONE), 24);
        int before = s.generator(5, NONE);
        no("40: 25 GENERATORS", s.drop(5, 40));
        due("GENERATORS", s.generator(5, NONE), before);
        due("40", s.has(5, 40), 1);
        due("things", s.count(3), 1);
    }

    private void undoTheLast() {
        begin("8 undo: The last thing done by hand is undone: true; false: there is none");
        no("none", s.undo());
        text("of a 3 5;of b 1;");
        no("none", s.undo());
        yes("drop", s.drop(0, 3));
        yes("drop", s.drop(1, 1));
        yes("drop", s.drop(0, 5));
        no("drop refused", s.drop(0, 5));
        no("add refused", s.add(1, 7));
        due("things", s.count(3), 3);
        yes("undo", s.undo());
        gaps(0, 1, 2, 3, 4, 7);
        gaps(1, 1);
        yes("hold", s.hold(0));
        due("things", s.count(3), 2);
        yes("undo", s.undo());
        gaps(0, 1, 2, 3, 4, 7);
        gaps(1);
        yes("add", s.add(0, 7));
        due("things", s.count(3), 2);
        fault("of", 1, 2);
        yes("undo", s.undo());
        yes("undo", s.undo());
        gaps(0, 1, 2, 4, 7);
        no("none", s.undo());
        gaps(0, 1, 2, 4, 7);
        due("things", s.count(3), 0);
    }

    private void undo40() {
        for (int many = 38; many <= 42; many++) {
            begin("8 undo: the last 40 can be; of " + many);
            text("of a 2 3;of b 1;");
            for (int i = 0; i < many; i++) {
                yes("drop", s.drop(0, 3 + 2 * i));
                due("things", s.count(3), Math.min(40, i + 1));
            }
            for (int i = 0; i < Math.min(40, many); i++) {
                yes("undo", s.undo());
            }
            no("undo", s.undo());
            due("GAPS", s.gap(0, NONE), 1 + Math.max(0, many - 40));
        }
    }

    private void undoRoundTheRow() {
        begin("8 undo: the last 40 can be, again and again");
        text("of a 2 3;");
        for (int i = 0; i < 45; i++) {
            yes("drop", s.drop(0, 3 + 2 * i));
        }
        for (int i = 0; i < 30; i++) {
            yes("undo", s.undo());
        }
        due("GAPS", s.gap(0, NONE), 16);
        due("things", s.count(3), 10);
        for (int i = 15; i < 50; i++) {
            yes("drop", s.drop(0, 3 + 2 * i));
        }
        due("GAPS", s.gap(0, NONE), 51);
        due("things", s.count(3), 40);
        for (int i = 0; i < 40; i++) {
            yes("undo", s.undo());
            due("TOP", s.about(0, 0), 2 * (50 - i) - 1);
        }
        no("undo", s.undo());
        due("GAPS", s.gap(0, NONE), 11);
    }

    private void has0To9999() {
        begin("9 has: a whole number (0 .. 9999)");
        text("of a 14 15;of b 1;");
        int[][] want = {{-1, NONE}, {0, 1}, {1, 0}, {13, 0}, {14, 1}, {15, 1}, {16, 0}, {28, 1}, {181, 0}, {182, 1}, {199, 1},
            {200, 1}, {399, 1}, {400, 1}, {9998, 1}, {9999, 1}, {10000, NONE}, {MOST, NONE}, {LEAST, NONE}};
        for (int[] pair : want) {
            due("has " + pair[0], s.has(0, pair[0]), pair[1]);
            due("has of all " + pair[0], s.has(1, pair[0]), pair[1] == NONE ? NONE : 1);
        }
    }

    private void rowsFrom0On() {
        begin("10, 11, 13, 14, 25: how many (i NONE), else the i-th, the least first, from 0 on; NONE: no such ones");
        text("of a 5 7 8 11;of b 1;");
        row("gap", i -> s.gap(0, i), 1, 2, 3, 4, 6, 9);
        row("generator", i -> s.generator(0, i), 5, 7, 8, 11);
        row("stiff", i -> s.stiff(0, i), 3, 6, 9);
        row("special", i -> s.special(0, i), 6, 9);
        row("child", i -> s.child(0, i), 11);
        row("gap of all", i -> s.gap(1, i));
        row("generator of all", i -> s.generator(1, i), 1);
        row("stiff of all", i -> s.stiff(1, i));
        row("special of all", i -> s.special(1, i));
        row("child of all", i -> s.child(1, i), 1);
        begin("10, 11 with the most");
        text("of a 14 15;of b 7 15;of c 8 9;meet d b c;");
        due("the last GAP", s.gap(0, 90), 181);
        due("behind it", s.gap(0, 91), NONE);
        due("the last GENERATOR", s.generator(3, 23) > 0 ? 1 : 0, 1);
        due("behind it", s.generator(3, 24), NONE);
    }

    private void apery1To200() {
        begin("12 apery: n (1 .. 200, of the SET) and r; NONE: no such ones");
        text("of a 14 15;of b 1;");
        due("n 200, r 0", s.apery(0, 200, 0), 0);
        due("n 200, r 1", s.apery(0, 200, 1), 201);
        due("n 200, r 181", s.apery(0, 200, 181), 381);
        due("n 200, r 199", s.apery(0, 200, 199), 199);
        due("n 200, r 200", s.apery(0, 200, 200), NONE);
        due("n 201, of it", s.apery(0, 201, 0), NONE);
        due("n 196", s.apery(0, 196, 13), 209);
        due("n 181, none of it", s.apery(0, 181, 0), NONE);
        due("n 14, r 14", s.apery(0, 14, 14), NONE);
        due("n 14, r -1", s.apery(0, 14, -1), NONE);
        due("n 14, r least", s.apery(0, 14, LEAST), NONE);
        due("n 14, r greatest", s.apery(0, 14, MOST), NONE);
        due("n 0", s.apery(0, 0, 0), NONE);
        due("n 0, r -1", s.apery(0, 0, -1), NONE);
        due("n -14", s.apery(0, -14, 0), NONE);
        due("n least", s.apery(0, LEAST, 0), NONE);
        due("n greatest", s.apery(0, MOST, 0), NONE);
        due("of all, n 1", s.apery(1, 1, 0), 0);
        due("of all, n 1, r 1", s.apery(1, 1, 1), NONE);
        due("of all, n 200", s.apery(1, 200, 199), 199);
        due("of all, n 201", s.apery(1, 201, 199), NONE);
    }

    private void about0To7() {
        begin("15 about: what 0 .. 7; Integer.MIN_VALUE for others");
        text("of a 3 5;of b 1;");
        int[] want = {7, 8, 1, 0, 0, 4, 1, 4};
        int[] all = {-1, 0, 1, 0, 0, 0, 0, 0};
        for (int what = 0; what < 8; what++) {
            due("about " + what, s.about(0, what), want[what]);
            due("about all " + what, s.about(1, what), all[what]);
        }
        for (int what : new int[] {-1, -2, 8, 9, LEAST, MOST}) {
            due("about " + what, s.about(0, what), LEAST);
            due("about no SET " + what, s.about(2, what), LEAST);
        }
    }

    private void ways0To150() {
        begin("16 ways: a number (0 .. 150); NONE: no such ones");
        text("of a 2 3;of b 5 6 7 8 9;of c 14 15;");
        int[][] want = {{-1, NONE}, {0, 1}, {1, 0}, {2, 1}, {149, 25}, {150, 26}, {151, NONE}, {LEAST, NONE}, {MOST, NONE}};
        for (int[] pair : want) {
            due("ways " + pair[0], s.ways(0, pair[0]), pair[1]);
        }
        due("a GAP", s.ways(2, 13), 0);
        due("the last", s.ways(2, 150), 1);
    }

    private void way0To150() {
        begin("17 way: the i-th WAY of a number, from 0 on, the k-th GENERATOR; NONE: no such ones");
        text("of a 2 3;of b 14 15;");
        int[][] want = {
            {150, 0, 0, 75}, {150, 0, 1, 0}, {150, 25, 0, 0}, {150, 25, 1, 50}, {150, 1, 0, 72}, {150, 1, 1, 2},
            {150, 26, 0, NONE}, {150, -1, 0, NONE}, {150, 0, -1, NONE}, {150, 0, 2, NONE}, {151, 0, 0, NONE}, {-1, 0, 0, NONE},
            {0, 0, 0, 0}, {0, 0, 1, 0}, {0, 0, 2, NONE}, {0, 1, 0, NONE}, {1, 0, 0, NONE}, {1, -1, 0, NONE},
            {LEAST, 0, 0, NONE}, {MOST, 0, 0, NONE}, {6, LEAST, 0, NONE}, {6, MOST, 0, NONE}, {6, 0, LEAST, NONE}, {6, 0, MOST, NONE},
        };
        for (int[] line : want) {
            due("way " + line[0] + " " + line[1] + " " + line[2], s.way(0, line[0], line[1], line[2]), line[3]);
        }
        due("the only one", s.way(1, 150, 0, 1), 10);
    }

    private void length0To150() {
        begin("18 length: a number (0 .. 150), what 0 .. 3; -2: there is no WAY. NONE for others");
        text("of a 2 3;of b 14 15;");
        int[][] want = {{0, 0, 0, 1, 0}, {1, -2, -2, -2, -2}, {6, 2, 3, 2, 1}, {149, 50, 74, 25, 1}, {150, 50, 75, 26, 1},
            {151, NONE, NONE, NONE, NONE}, {-1, NONE, NONE, NONE, NONE}, {LEAST, NONE, NONE, NONE, NONE}, {MOST, NONE, NONE, NONE, NONE}};
        for (int[] line : want) {
            for (int what = 0; what < 4; what++) {
                due("length " + line[0] + " " + what, s.length(0, line[0], what), line[what + 1]);
            }
            for (int what : new int[] {-1, 4, LEAST, MOST}) {
                due("length " + line[0] + " " + what, s.length(0, line[0], what), NONE);
            }
        }
        due("a GAP", s.length(1, 139, 0), -2);
        due("the next", s.length(1, 140, 2), 1);
    }

    private void parts0To900() {
        begin("19 parts: a number (0 .. 900); NONE: no such ones");
        text("of a 6 10 15;of b 1;");
        int[][] want = {{-1, NONE}, {0, 0}, {30, 3}, {899, 1}, {900, 1}, {901, NONE}, {LEAST, NONE}, {MOST, NONE}};
        for (int[] pair : want) {
            due("parts " + pair[0], s.parts(0, pair[0]), pair[1]);
        }
    }

    private void ties() {
        begin("20 tie: how many (i NONE), else the i-th; NONE: no such ones");
        text("of a 5 6 7 9;of b 1;of c 5 6 7 9;");
        row("tie", i -> s.tie(0, i), 12, 14, 15, 16, 18);
        row("tie of all", i -> s.tie(1, i));
        row("tie", i -> s.tie(2, i), 12, 14, 15, 16, 18);
        // what was asked ahead is not told of a SET that is changed
        yes("drop", s.drop(2, 9));
        due("one fewer GENERATOR", s.generator(2, NONE), 3);
        // 6 and 6 or 5 and 7, 4 times 5 or 6 and twice 7, 3 times 7 or 6 and 3 times 5
        row("tie", i -> s.tie(2, i), 12, 20, 21);
        due("RULES", s.about(2, 6), 3);
        yes("undo", s.undo());
        row("tie", i -> s.tie(2, i), 12, 14, 15, 16, 18);
        begin("20 tie: of SETS that have all GENERATORS but one alike");
        text("of a 3 5;of b 2 5;of c 2 3;of d 4 3;");
        row("tie 0", i -> s.tie(0, i), 15);
        row("tie 1", i -> s.tie(1, i), 10);
        row("tie 2", i -> s.tie(2, i), 6);
        row("tie 3", i -> s.tie(3, i), 12);
        row("tie 2", i -> s.tie(2, i), 6);
        begin("20 tie: a far one");
        text("of a 2 3;");
        for (int x = 3; x < 201; x += 2) {
            s.drop(0, x);
        }
        row("tie", i -> s.tie(0, i), 402);
        due("parts", s.parts(0, 402), 2);
    }

    private void chain0To150() {
        begin("21 chain: CHAIN of a number (0 .. 150); -2: it has no WAY; NONE: no such ones");
        text("of a 3 5;of b 14 15;");
        int[][] want = {{-1, NONE}, {0, 0}, {1, -2}, {7, -2}, {8, 0}, {15, 5}, {149, 5}, {150, 5}, {151, NONE}, {LEAST, NONE}, {MOST, NONE}};
        for (int[] pair : want) {
            due("chain " + pair[0], s.chain(0, pair[0]), pair[1]);
        }
        due("one WAY", s.chain(1, 150), 0);
        due("no WAY", s.chain(1, 139), -2);
    }

    private void chainUpTo60Ways() {
        begin("21 chain: -2: more than 60");
        text("of a 5 7 8 11;of b 4 5 6;");
        int atMost = 0;
        int more = 0;
        for (int x = 80; x <= 95; x++) {
            int ways = s.ways(0, x);
            boolean far = ways > 60;
            due("chain " + x + ", of " + ways + " WAYS", s.chain(0, x) == -2 ? 1 : 0, far ? 1 : 0);
            atMost = far ? atMost : Math.max(atMost, ways);
            more = far && (more == 0 || ways < more) ? ways : more;
        }
        due("most WAYS of one that has a CHAIN", atMost, 60);
        due("fewest WAYS of one that has none", more, 61);
        due("many", s.chain(1, 150), -2);
    }

    private void greedy0To150() {
        begin("22 greedy: a number (0 .. 150), what 0 .. 2. NONE for others");
        text("of a 3 5;of b 14 15;");
        int[][] want = {{0, 1, 0, 0}, {1, 0, 0, 1}, {4, 0, 1, 1}, {149, 0, 30, 1}, {150, 1, 30, 0},
            {151, NONE, NONE, NONE}, {-1, NONE, NONE, NONE}, {LEAST, NONE, NONE, NONE}, {MOST, NONE, NONE, NONE}};
        for (int[] line : want) {
            for (int what = 0; what < 3; what++) {
                due("greedy " + line[0] + " " + what, s.greedy(0, line[0], what), line[what + 1]);
            }
            for (int what : new int[] {-1, 3, LEAST, MOST}) {
                due("greedy " + line[0] + " " + what, s.greedy(0, line[0], what), NONE);
            }
        }
        due("less than the least GENERATOR", s.greedy(1, 13, 2), 13);
    }

    private void asksWith24Generators() {
        begin("11, 16 to 23 with 24 GENERATORS, the most that there can be: 24 .. 47");
        text("of a 1;");
        for (int x = 1; x < 24; x++) {
            yes("drop " + x, s.drop(0, x));
        }
        int[][] want = {{0, 1, 0}, {23, 0, 0}, {24, 1, 1}, {47, 1, 1}, {48, 1, 1}, {71, 12, 12}, {72, 13, 13}, {94, 53, 2}, {95, 56, 1},
            {150, 1062, 1}};
        for (int[] line : want) {
            due("ways " + line[0], s.ways(0, line[0]), line[1]);
            due("parts " + line[0], s.parts(0, line[0]), line[2]);
        }
        // 24 and 47, 25 and 46, up to 35 and 36
        for (int i = 0; i < 12; i++) {
            due("way 71 " + i, s.way(0, 71, i, i), 1);
            due("way 71 " + i, s.way(0, 71, i, 23 - i), 1);
        }
        due("way behind the last", s.way(0, 71, 12, 23), NONE);
        due("way, GENERATOR 24", s.way(0, 71, 0, 24), NONE);
        // 5 times 24 and 30 ..; twice 37 and twice 38
        due("the first WAY of 150", s.way(0, 150, 0, 0), 5);
        due("the first WAY of 150", s.way(0, 150, 0, 6), 1);
        due("the last WAY of 150", s.way(0, 150, 1061, 13), 2);
        due("the last WAY of 150", s.way(0, 150, 1061, 14), 2);
        due("behind the last", s.way(0, 150, 1062, 0), NONE);
        due("least LENGTH", s.length(0, 150, 0), 4);
        due("greatest LENGTH", s.length(0, 150, 1), 6);
        due("chain 71", s.chain(0, 71), 2);
        due("chain 72", s.chain(0, 72), 3);
        due("chain 94", s.chain(0, 94), 3);
        due("greedy 94", s.greedy(0, 94, 1), 2);
        due("greedy 95", s.greedy(0, 95, 2), 1);
        due("blunder", s.blunder(0), 48);
        due("ties, 50 to 94", s.tie(0, NONE), 45);
        due("the last", s.tie(0, 44), 94);
        due("RULES", s.about(0, 6), 276);
        due("child 23", s.child(0, 23), 47);
        text("of a 7 15;of b 8 9;meet c a b;");
        due("ties", s.tie(2, NONE), 69);
        due("the first", s.tie(2, 0), 78);
        due("the last", s.tie(2, 68), 164);
        due("RULES", s.about(2, 6), 272);
    }

    private void kunzRests() {
        begin("24 kunz: NONE: no such ones");
        text("of a 4 5 6;of b 1;of c 2 15;");
        int[][] want = {{LEAST, NONE}, {-1, NONE}, {0, NONE}, {1, 1}, {2, 1}, {3, 2}, {4, NONE}, {5, NONE}, {MOST, NONE}};
        for (int[] pair : want) {
            due("kunz " + pair[0], s.kunz(0, pair[0]), pair[1]);
            due("kunz of all " + pair[0], s.kunz(1, pair[0]), NONE);
        }
        due("2 15: 1", s.kunz(2, 1), 7);
        due("2 15: 2", s.kunz(2, 2), NONE);
    }

    private void below0To2() {
        begin("26 below: BELOW n (0 .. 2); NONE: no such ones");
        text("of a 1;of b 3 5;");
        int[][] want = {{LEAST, NONE, NONE}, {-1, NONE, NONE}, {0, 1, 1}, {1, 1, 0}, {2, 2, 0}, {3, NONE, NONE}, {MOST, NONE, NONE}};
        for (int[] line : want) {
            due("below " + line[0], s.below(0, line[0]), line[1]);
            due("below " + line[0], s.below(1, line[0]), line[2]);
        }
        // SETS with more than 24 GENERATORS are SETS, too
        for (int x = 1; x < 24; x++) {
            s.drop(0, x);
        }
        due("CHILDREN", s.child(0, NONE), 24);
        due("below 1", s.below(0, 1), 24);
        due("below 2", s.below(0, 2), 23 * 24 / 2 + 3);
    }

    private void meeting0To2() {
        begin("27 meeting: what 0 .. 2. NONE for others");
        text("of a 3 5;of b 2 7;");
        int[][] want = {{LEAST, NONE}, {-1, NONE}, {0, 1}, {1, 3}, {2, 2}, {3, NONE}, {MOST, NONE}};
        for (int[] pair : want) {
            due("meeting, what " + pair[0], s.meeting(0, 1, pair[0]), pair[1]);
            due("meeting of no SET", s.meeting(0, 2, pair[0]), NONE);
            due("meeting of no SET", s.meeting(2, 0, pair[0]), NONE);
        }
    }

    private void list0To8() {
        begin("28 list: a GENUS (0 .. 8): how many (i NONE, whatever k is); of the i-th how many (k NONE), else the k-th");
        int[] sizes = {1, 1, 2, 4, 7, 12, 23, 39, 67};
        for (int genus = 0; genus < 9; genus++) {
            for (int k : new int[] {NONE, 0, -2, 99, LEAST, MOST}) {
                due("list " + genus, s.list(genus, NONE, k), sizes[genus]);
            }
            int last = sizes[genus] - 1;
            due("behind the last", s.list(genus, last + 1, 0), NONE);
            due("behind the last", s.list(genus, last + 1, NONE), NONE);
            due("i -2", s.list(genus, -2, 0), NONE);
            due("i least", s.list(genus, LEAST, 0), NONE);
            due("i greatest", s.list(genus, MOST, NONE), NONE);
            // the last one has no number above 0 up to GENUS
            due("GENERATORS of the last", s.list(genus, last, NONE), genus + 1);
            for (int k = 0; k <= genus; k++) {
                due("the last, " + k, s.list(genus, last, k), genus + 1 + k);
            }
            due("k behind", s.list(genus, last, genus + 1), NONE);
            due("k -2", s.list(genus, last, -2), NONE);
            due("k least", s.list(genus, last, LEAST), NONE);
            due("k greatest", s.list(genus, last, MOST), NONE);
            // the first one has 2
            due("GENERATORS of the first", s.list(genus, 0, NONE), genus == 0 ? 1 : 2);
            due("of the first the last", s.list(genus, 0, genus == 0 ? 0 : 1), 2 * genus + 1);
        }
        for (int genus : new int[] {-1, 9, LEAST, MOST}) {
            due("list " + genus, s.list(genus, NONE, NONE), NONE);
            due("list " + genus, s.list(genus, 0, NONE), NONE);
            due("list " + genus, s.list(genus, 0, 0), NONE);
        }
    }

    private void listed() {
        begin("29 listed: Where a SET is in the LIST of its GENUS; -2: the GENUS is above 8");
        text("of a 9 10 11 12 13 14 15;drop b a 9;of c 8 9 10 11 12 13 14 15;drop d c 8;of e 3 5;of f 1;");
        int[] want = {-2, -2, 38, 66, 1, 0};
        for (int set = 0; set < want.length; set++) {
            due("listed " + set, s.listed(set), want[set]);
        }
    }

    private void genusUpTo8() {
        begin("29 to 32: -2: the GENUS is above 8");
        text("of a 2 15;drop b a 15;drop c b 17;of d 8 9 10 11 12 13 14 15;drop e d 8;drop f e 9;");
        int[] genus = {7, 8, 9, 7, 8, 9};
        for (int set = 0; set < genus.length; set++) {
            due("GENUS", s.gap(set, NONE), genus[set]);
            boolean far = genus[set] == 9;
            due("listed", s.listed(set) == -2 ? 1 : 0, far ? 1 : 0);
            due("above", s.above(set) == -2 ? 1 : 0, far ? 1 : 0);
            for (int i : new int[] {NONE, 0, -2, 1, 99, LEAST, MOST}) {
                due("piece " + i, s.piece(set, i) == -2 ? 1 : 0, far ? 1 : 0);
                due("good " + i, s.good(set, i) == -2 ? 1 : 0, far ? 1 : 0);
            }
        }
        due("above 2 17", s.above(1), 9);
        row("piece 2 17", i -> s.piece(1, i), 0);
        row("good 2 17", i -> s.good(1, i), 3);
        due("above 9 .. 17", s.above(4), 37);
        row("piece 9 .. 17", i -> s.piece(4, i), 100, 170, 216);
        row("good 9 .. 17", i -> s.good(4, i), 8);
    }

    private void same() {
        begin("33 same: 0: each has some that the other has not, 1 alike, 2 the first has all of the other, 3 the other has");
        text("of a 1;of b 2 3;of c 3 4 5;of d 3 5 7;of e 2 5;of f 5 3;");
        int[][] want = {
            {1, 2, 2, 2, 2, 2},
            {3, 1, 2, 2, 2, 2},
            {3, 3, 1, 2, 0, 2},
            {3, 3, 3, 1, 0, 2},
            {3, 3, 0, 0, 1, 0},
            {3, 3, 3, 3, 0, 1},
        };
        for (int set = 0; set < 6; set++) {
            for (int other = 0; other < 6; other++) {
                due("same " + set + " " + other, s.same(set, other), want[set][other]);
            }
        }
        yes("drop", s.drop(4, 2));
        // without 1 2 3 the first, without 1 2 4 7 the other
        due("same", s.same(4, 5), 0);
        text("of a 3 5;add b a 7;");
        due("one more", s.same(1, 0), 2);
        due("one fewer", s.same(0, 1), 3);
        yes("add", s.add(0, 7));
        due("alike", s.same(0, 1), 1);
    }

    private void hold0To2() {
        begin("34 hold: a SLOT (0 .. 2): true; false: no such one");
        text("of a 3 5;");
        for (int slot : new int[] {-1, 3, 4, LEAST, MOST}) {
            no("hold " + slot, s.hold(slot));
            no("restore " + slot, s.restore(slot));
        }
        due("SLOTS", s.count(4), 0);
        for (int slot = 0; slot < 3; slot++) {
            no("restore ahead of it", s.restore(slot));
            yes("hold " + slot, s.hold(slot));
            due("SLOTS", s.count(4), slot + 1);
            yes("restore " + slot, s.restore(slot));
        }
        yes("hold once more", s.hold(1));
        due("SLOTS", s.count(4), 3);
        begin("34 hold: without SETS");
        yes("hold", s.hold(2));
        due("SLOTS", s.count(4), 1);
        yes("restore", s.restore(2));
        due("SETS", s.count(0), 0);
    }

    private void restoreWhatIsHeld() {
        begin("35 restore: true; false, and nothing happens: no such one, it holds nothing");
        text("of a 3 5;of b 1;");
        yes("drop", s.drop(0, 3));
        yes("hold", s.hold(1));
        yes("drop", s.drop(1, 1));
        for (int slot : new int[] {0, 2, -1, 3, LEAST, MOST}) {
            no("restore " + slot, s.restore(slot));
        }
        due("things", s.count(3), 2);
        gaps(0, 1, 2, 3, 4, 7);
        gaps(1, 1);
        put("of");
        yes("restore", s.restore(1));
        due("things: nothing can be undone then", s.count(3), 0);
        no("undo", s.undo());
        gaps(0, 1, 2, 3, 4, 7);
        gaps(1);
        due("bytes", s.count(2), 2);
        due("SETS", s.count(0), 2);
        yes("drop", s.drop(1, 1));
        due("things", s.count(3), 1);
        yes("undo", s.undo());
        gaps(1);
    }

    private void restoreStaysThere() {
        begin("35 restore: All is as a SLOT holds it (it stays there)");
        text("of a 3 5;of b 1;");
        yes("hold 0", s.hold(0));
        yes("drop", s.drop(0, 5));
        yes("hold 1", s.hold(1));
        yes("drop", s.drop(1, 1));
        yes("hold 2", s.hold(2));
        for (int round = 0; round < 3; round++) {
            yes("restore 0", s.restore(0));
            gaps(0, 1, 2, 4, 7);
            gaps(1);
            yes("change", s.drop(0, 3));
            yes("restore 1", s.restore(1));
            gaps(0, 1, 2, 4, 5, 7);
            gaps(1);
            yes("change", s.drop(1, 1));
            yes("restore 2", s.restore(2));
            gaps(0, 1, 2, 4, 5, 7);
            gaps(1, 1);
            due("SLOTS", s.count(4), 3);
        }
        yes("hold 0 anew", s.hold(0));
        yes("restore 1", s.restore(1));
        yes("restore 0", s.restore(0));
        gaps(1, 1);
    }

    private void count0To7() {
        begin("36 count: 0 .. 7. NONE for others");
        int[] none = {0, 0, 0, 0, 0, 0, -2, 0};
        for (int what = 0; what < 8; what++) {
            due("count without SETS " + what, s.count(what), none[what]);
        }
        text("of a 3 5;of b 4 5 6;of c 5 6 7 8 9;of d 5 6 7 8 9;");
        yes("drop", s.drop(3, 5));
        yes("drop", s.drop(3, 6));
        yes("hold", s.hold(0));
        put("abc");
        // GAPS 1 2 4 7; 1 2 3 7; 1 2 3 4; 1 2 3 4 5 6
        int[] want = {4, 18, 3, 2, 1, 3, 7, 2};
        for (int what = 0; what < 8; what++) {
            due("count " + what, s.count(what), want[what]);
        }
        for (int what : new int[] {-1, -2, 8, 9, LEAST, MOST}) {
            due("count " + what, s.count(what), NONE);
        }
    }

    private void countOfOneAndSix() {
        begin("36 count: of one SET, of six");
        text("of a 1;");
        int[] all = {1, 0, 0, 0, 0, 1, -1, 0};
        for (int what = 0; what < 8; what++) {
            due("count " + what, s.count(what), all[what]);
        }
        text("of a 3 5;");
        int[] one = {1, 4, 0, 0, 0, 1, 7, 4};
        for (int what = 0; what < 8; what++) {
            due("count " + what, s.count(what), one[what]);
        }
        text("of a 14 15;of b 14 15;of c 13 15;of d 13 15;of e 11 13;of f 2 15;");
        // GAPS of all are those of the last: 1 3 5 7 9 of 2 15 ..., less 11 and 13
        int[] six = {6, 91 + 91 + 84 + 84 + 60 + 7, 0, 0, 0, 63, 181, 5};
        for (int what = 0; what < 8; what++) {
            due("count " + what, s.count(what), six[what]);
        }
        text("of a 1;of b 14 15;of c 5 6 7 8 9;of d 5 6 7 8 9;of e 5 6 7 8 9;of f 5 6 7 8 9;");
        int[] mixed = {6, 91 + 16, 0, 0, 0, 3, 181, 0};
        for (int what = 0; what < 8; what++) {
            due("count " + what, s.count(what), mixed[what]);
        }
        text("of a 2 15;of b 3 4;");
        due("GAPS of both: 1 and 5", s.count(7), 2);
        text("of a 3 4;of b 2 15;");
        due("GAPS of both: 1 and 5", s.count(7), 2);
        text("of a 3 5;of b 2 7;of c 3 7 8;");
        due("GAPS of all: 1", s.count(7), 1);
    }
}
