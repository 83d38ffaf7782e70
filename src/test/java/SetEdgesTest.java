/** The document's parts II and III, sentence by sentence: each boundary that a term names, from both sides. */
public final class SetEdgesTest extends Checks {
    public static void main(String[] args) {
        SetEdgesTest test = new SetEdgesTest();
        test.conductorIsTheLeast();
        test.gapsAreAbove0();
        test.topOfNoGapIsMinus1();
        test.generatorsAreAbove0();
        test.aperyOfEachRest();
        test.stiffWithEachNumber();
        test.specialTwiceToo();
        test.symmetricBelow0Too();
        test.nearlySymmetricIsEvenAbove0();
        test.loneIsOneOfTheTwo();
        test.wilf();
        test.weight();
        test.wayOf0();
        test.waysInOrder();
        test.lengthAndStep();
        test.beginningsAndParts();
        test.tieHasTwoParts();
        test.rulesArePartsLess1();
        test.chainOfWays();
        test.greedyTillThereIsNone();
        test.blunderIsTheLeast();
        test.kunzRoundsDown();
        test.childrenAboveTop();
        test.belowJustNTimes();
        test.meetingIsTheFirst();
        test.listInItsOrder();
        test.aboveHasAllOfOne();
        test.numbersOfGapsInBits();
        test.piecesAreTheFewest();
        test.piecesByTheFirst();
        test.whoNames1HasLost();
        test.goodWhateverTheOtherNames();
        test.byHand();
        test.noneAheadOfMinus2();
        test.end();
    }

    private void conductorIsTheLeast() {
        begin("all whole numbers from its CONDUCTOR on, the least number of which that is so");
        text("of a 1;of b 2 3;of c 3 4 5;of d 3 5;of e 14 15;of f 2 15;");
        int[] want = {0, 2, 3, 8, 182, 14};
        for (int set = 0; set < want.length; set++) {
            due("CONDUCTOR " + set, s.about(set, 1), want[set]);
            due("from it on", s.has(set, want[set]), 1);
            due("the number ahead", s.has(set, want[set] - 1), set == 0 ? NONE : 0);
        }
    }

    private void gapsAreAbove0() {
        begin("GAPS: whole numbers above 0 that are not of it; GENUS: how many");
        text("of a 1;of b 2 3;of c 3 5;of d 9 10 11 12 13 14 15;");
        gaps(0);
        gaps(1, 1);
        gaps(2, 1, 2, 4, 7);
        gaps(3, 1, 2, 3, 4, 5, 6, 7, 8, 16, 17);
        due("0 is of each", s.has(0, 0), 1);
        due("0 is of each", s.has(1, 0), 1);
    }

    private void topOfNoGapIsMinus1() {
        begin("TOP: the greatest GAP (-1: there is none)");
        text("of a 1;of b 2 3;of c 4 6 13;");
        due("all", s.about(0, 0), -1);
        due("2 3", s.about(1, 0), 1);
        due("4 6 13", s.about(2, 0), 15);
        yes("drop", s.drop(0, 1));
        due("all but 1", s.about(0, 0), 1);
        yes("add", s.add(1, 1));
        due("2 3, and 1", s.about(1, 0), -1);
    }

    private void generatorsAreAbove0() {
        begin("GENERATORS: those above 0 of it that are not the sum of two above 0 of it");
        text("of a 1;of b 2 3;of c 8 9 10 11 12 13 14 15;of d 4 6 9 12 13 15;of e 6 9 12 5;of f 3 4;");
        generators(0, 1);
        generators(1, 2, 3);
        generators(2, 8, 9, 10, 11, 12, 13, 14, 15);
        // 12 is 6 and 6, 13 is 4 and 9, 15 is 6 and 9
        generators(3, 4, 6, 9);
        // 12 is 6 and 6
        generators(4, 5, 6, 9);
        yes("drop", s.drop(5, 4));
        // 8 and 11 are none of two any more; 3 and 7 make 10, 7 and 7 make 14
        generators(5, 3, 7, 8);
        yes("drop", s.drop(5, 3));
        // from 6 to 11 all; 12 is 6 and 6
        generators(5, 6, 7, 8, 9, 10, 11);
    }

    private void aperyOfEachRest() {
        begin("APERY of a number n above 0 of it and a rest r (0 .. n less 1)");
        text("of a 4 5 6;of b 1;of c 14 15;");
        int[] four = {0, 5, 6, 11};
        int[] eight = {0, 9, 10, 11, 4, 5, 6, 15};
        for (int r = 0; r < 8; r++) {
            due("of 4 and " + r, s.apery(0, 4, r), r < 4 ? four[r] : NONE);
            due("of 8 and " + r, s.apery(0, 8, r), eight[r]);
            due("of 7 and " + r, s.apery(0, 7, r), NONE);
            due("of all, of 8 and " + r, s.apery(1, 8, r), r);
        }
        due("of 1", s.apery(1, 1, 0), 0);
        due("of 0", s.apery(0, 0, 0), NONE);
        due("of 14 and 13", s.apery(2, 14, 13), 13 * 15);
        due("of 15 and 1", s.apery(2, 15, 1), 14 * 14);
        due("of 182 and 181", s.apery(2, 182, 181), 181 + 182);
        due("of 181", s.apery(2, 181, 0), NONE);
    }

    private void stiffWithEachNumber() {
        begin("STIFF GAPS: those that with each number above 0 of the SET give one of it");
        text("of a 1;of b 2 3;of c 6 9 11 14;of d 8 9 10 11 12 13 14 15;of e 3 7 11;of f 6 10 15;");
        row("stiff 0", i -> s.stiff(0, i));
        row("stiff 1", i -> s.stiff(1, i), 1);
        row("stiff 2", i -> s.stiff(2, i), 3, 16, 19);
        row("stiff 3", i -> s.stiff(3, i), 1, 2, 3, 4, 5, 6, 7);
        row("stiff 4", i -> s.stiff(4, i), 4, 8);
        row("stiff 5", i -> s.stiff(5, i), 29);
    }

    private void specialTwiceToo() {
        begin("SPECIAL GAPS: STIFF ones twice which are of it");
        text("of a 1;of b 2 3;of c 6 9 11 14;of d 8 9 10 11 12 13 14 15;of e 3 7 11;of f 5 7 8 11;");
        row("special 0", i -> s.special(0, i));
        row("special 1", i -> s.special(1, i), 1);
        row("special 2", i -> s.special(2, i), 3, 16, 19);
        row("special 3", i -> s.special(3, i), 4, 5, 6, 7);
        row("special 4", i -> s.special(4, i), 8);
        // 3 is STIFF, and 5 of it, but not 6
        row("special 5", i -> s.special(5, i), 6, 9);
    }

    private void symmetricBelow0Too() {
        begin("SYMMETRIC: of each whole number (below 0, too) and TOP less it just one is of it");
        text("of a 1;of b 2 3;of c 3 4 5;of d 4 5 6;of e 3 5 7;of f 5 6 7 8 9;");
        int[] want = {1, 1, 0, 1, 0, 0};
        for (int set = 0; set < want.length; set++) {
            due("SYMMETRIC " + set, s.about(set, 2), want[set]);
        }
    }

    private void nearlySymmetricIsEvenAbove0() {
        begin("NEARLY SYMMETRIC: TOP is even, above 0, and this is so of all whole numbers but half of TOP");
        text("of a 1;of b 2 3;of c 3 4 5;of d 4 5 6;of e 3 5 7;of f 5 6 7 8 9;");
        int[] want = {0, 0, 1, 0, 1, 0};
        for (int set = 0; set < want.length; set++) {
            due("NEARLY SYMMETRIC " + set, s.about(set, 3), want[set]);
        }
        text("of a 4 5 11;of b 4 5 7;of c 3 7 8;of d 5 6 7 9;of e 5 6 8 9;of f 6 7 8 9 10 11;");
        // 1 2 3 6 7 is of TOP 7, which is odd, and has one GAP more than half; 1 2 3 6; 1 2 4 5; 1 2 3 4 8; 1 2 3 4 7; 1 2 3 4 5
        int[] next = {0, 1, 0, 1, 0, 0};
        for (int set = 0; set < next.length; set++) {
            due("NEARLY SYMMETRIC " + set, s.about(set, 3), next[set]);
            due("SYMMETRIC " + set, s.about(set, 2), 0);
        }
    }

    private void loneIsOneOfTheTwo() {
        begin("LONE: one of the two");
        text("of a 1;of b 2 3;of c 3 4 5;of d 4 5 6;of e 3 5 7;of f 5 6 7 8 9;");
        due("bits", s.count(5), 1 + 2 + 4 + 8 + 16);
        text("of a 5 6 7 8 9;of b 4 5 11;of c 3 7 8;of d 5 6 8 9;of e 6 7 8 9 10 11;of f 3 5;");
        due("bits", s.count(5), 32);
    }

    private void wilf() {
        begin("WILF: GENERATORS times how many of it are below CONDUCTOR, less CONDUCTOR");
        text("of a 1;of b 2 3;of c 6 10 15;of d 4 6 13;of e 6 9 11 14;of f 14 15;");
        int[] want = {0, 0, 15, 8, 16, 0};
        int[] fewer = {0, 1, 15, 8, 9, 91};
        for (int set = 0; set < want.length; set++) {
            due("WILF " + set, s.about(set, 4), want[set]);
            due("below CONDUCTOR " + set, s.about(set, 5), fewer[set]);
        }
    }

    private void weight() {
        begin("WEIGHT: all GAPS added, less 1 and 2 and so on up to GENUS");
        text("of a 1;of b 2 3;of c 6 10 15;of d 4 6 13;of e 6 9 11 14;of f 8 9 10 11 12 13 14 15;");
        int[] want = {0, 0, 45, 17, 22, 0};
        for (int set = 0; set < want.length; set++) {
            due("WEIGHT " + set, s.about(set, 7), want[set]);
        }
    }

    private void waysAre(int set, int x, int[]... want) {
        due("ways of " + x, s.ways(set, x), want.length);
        for (int i = 0; i < want.length; i++) {
            for (int k = 0; k < want[i].length; k++) {
                due("way " + x + " " + i + " " + k, s.way(set, x, i, k), want[i][k]);
            }
            due("way " + x + " behind the last GENERATOR", s.way(set, x, i, want[i].length), NONE);
            due("way " + x + " ahead of the first GENERATOR", s.way(set, x, i, -1), NONE);
        }
        due("way behind the last of " + x, s.way(set, x, want.length, 0), NONE);
        due("way ahead of the first of " + x, s.way(set, x, -1, 0), NONE);
    }

    private void wayOf0() {
        begin("A WAY of a number ..; of 0: none of any");
        text("of a 1;of b 6 10 15;of c 9 10 11 12 13 14 15;");
        waysAre(0, 0, new int[] {0});
        waysAre(1, 0, new int[] {0, 0, 0});
        waysAre(2, 0, new int[7]);
        waysAre(0, 1, new int[] {1});
        waysAre(0, 150, new int[] {150});
        waysAre(1, 29);
        waysAre(1, 1);
        waysAre(1, 15, new int[] {0, 0, 1});
    }

    private void waysInOrder() {
        begin("WAYS in order: the one that takes the first GENERATOR oftener is ahead, of alike ones the second");
        text("of a 6 10 15;of b 4 6 13;of c 6 9 11 14;");
        waysAre(0, 60, new int[] {10, 0, 0}, new int[] {5, 3, 0}, new int[] {5, 0, 2}, new int[] {0, 6, 0},
            new int[] {0, 3, 2}, new int[] {0, 0, 4});
        waysAre(1, 38, new int[] {8, 1, 0}, new int[] {5, 3, 0}, new int[] {3, 0, 2}, new int[] {2, 5, 0},
            new int[] {0, 2, 2});
        waysAre(2, 42, new int[] {7, 0, 0, 0}, new int[] {4, 2, 0, 0}, new int[] {1, 4, 0, 0}, new int[] {1, 0, 2, 1},
            new int[] {0, 1, 3, 0}, new int[] {0, 0, 0, 3});
        waysAre(2, 31, new int[] {1, 0, 1, 1}, new int[] {0, 1, 2, 0});
    }

    private void lengths(int set, int x, int... want) {
        for (int what = 0; what < 4; what++) {
            due("length " + x + " " + what, s.length(set, x, what), want[what]);
        }
    }

    private void lengthAndStep() {
        begin("LENGTH of a WAY: how many it takes, added. STEP: .. with no LENGTH of another of its WAYS between");
        text("of a 6 10 15;of b 4 6 13;of c 2 15;of d 6 9 11 14;of e 1;of f 13 14 15;");
        lengths(0, 0, 0, 0, 1, 0);
        lengths(0, 60, 4, 10, 6, 2);
        lengths(0, 31, 3, 3, 1, 0);
        lengths(0, 29, -2, -2, -2, -2);
        lengths(1, 24, 4, 6, 3, 1);
        lengths(1, 38, 4, 9, 5, 2);
        lengths(1, 39, 3, 7, 3, 3);
        lengths(2, 29, 8, 8, 1, 0);
        lengths(2, 30, 2, 15, 2, 13);
        lengths(2, 149, 16, 68, 5, 13);
        // two WAYS of one LENGTH
        lengths(3, 20, 2, 2, 1, 0);
        lengths(4, 1, 1, 1, 1, 0);
        lengths(4, 150, 150, 150, 1, 0);
        lengths(5, 150, 10, 11, 2, 1);
    }

    private void beginningsAndParts() {
        begin("BEGINNINGS: GENERATORS g with x less g of the SET; NEXT to one another; PARTS");
        text("of a 6 10 15;of b 3 4 5;of c 1;of d 6 9 11 14;");
        // no BEGINNING; x less a GENERATOR is 0; two that are NEXT; three of which none is; all by one another
        int[][] want = {{0, 0}, {1, 0}, {29, 0}, {6, 1}, {15, 1}, {16, 1}, {30, 3}, {31, 1}, {36, 1}, {60, 1}, {900, 1}};
        for (int[] pair : want) {
            due("PARTS of " + pair[0], s.parts(0, pair[0]), pair[1]);
        }
        int[] small = {0, 0, 0, 1, 1, 1, 1, 1, 2, 2, 2, 1, 1};
        for (int x = 0; x < small.length; x++) {
            due("PARTS of " + x, s.parts(1, x), small[x]);
        }
        due("PARTS of 0 of all", s.parts(2, 0), 0);
        due("PARTS of 1 of all", s.parts(2, 1), 1);
        due("PARTS of 900 of all", s.parts(2, 900), 1);
        due("PARTS of 20", s.parts(3, 20), 2);
        due("PARTS of 42", s.parts(3, 42), 1);
    }

    private void tieHasTwoParts() {
        begin("TIE: a number with two PARTS, or more");
        text("of a 1;of b 6 10 15;of c 5 6 7 9;of d 6 9 11 14;of e 4 6 13;of f 13 15;");
        row("tie 0", i -> s.tie(0, i));
        row("tie 1", i -> s.tie(1, i), 30);
        row("tie 2", i -> s.tie(2, i), 12, 14, 15, 16, 18);
        row("tie 3", i -> s.tie(3, i), 18, 20, 23, 28, 33, 36);
        row("tie 4", i -> s.tie(4, i), 12, 26);
        row("tie 5", i -> s.tie(5, i), 195);
    }

    private void rulesArePartsLess1() {
        begin("RULES: of all TIES the PARTS less 1, added");
        text("of a 1;of b 6 10 15;of c 5 6 7 8 9;of d 6 9 11 14;of e 8 9 10 11 12 13 14 15;of f 13 15;");
        int[] want = {0, 2, 10, 6, 28, 1};
        for (int set = 0; set < want.length; set++) {
            due("RULES " + set, s.about(set, 6), want[set]);
        }
    }

    private void chainOfWays() {
        begin("CHAIN of a number: the least n ..; APART: the greater of the two LENGTHS that are left (one WAY: 0)");
        text("of a 6 10 15;of b 4 6 13;of c 2 15;of d 6 9 11 14;of e 13 14 15;of f 1;");
        int[][] want = {
            {0, 0, 0}, {0, 29, -2}, {0, 6, 0}, {0, 31, 0}, {0, 30, 5}, {0, 45, 5}, {0, 60, 5},
            {1, 12, 3}, {1, 24, 3}, {1, 26, 5}, {1, 38, 5}, {1, 39, 5},
            {2, 29, 0}, {2, 30, 15}, {2, 150, 15}, {3, 20, 2}, {3, 28, 3}, {3, 33, 4}, {3, 42, 4},
            {4, 150, 8}, {5, 0, 0}, {5, 150, 0},
        };
        for (int[] triple : want) {
            due("CHAIN of " + triple[1], s.chain(triple[0], triple[1]), triple[2]);
        }
        // 6 and 15, or 3 times 7: the one behind is left longer
        text("of a 6 7 15;");
        due("CHAIN of 21", s.chain(0, 21), 3);
    }

    private void greedyTillThereIsNone() {
        begin("GREEDY: .. the greatest GENERATOR that is not above it .., till there is none: it comes out if nothing is left");
        text("of a 6 10 15;of b 1;of c 2 15;of d 14 15;");
        int[][] want = {
            {0, 0, 1, 0, 0}, {0, 5, 0, 0, 5}, {0, 6, 1, 1, 0}, {0, 9, 0, 1, 3}, {0, 10, 1, 1, 0}, {0, 14, 0, 1, 4},
            {0, 15, 1, 1, 0}, {0, 12, 0, 1, 2}, {0, 31, 0, 2, 1}, {0, 36, 1, 3, 0}, {0, 150, 1, 10, 0},
            {1, 0, 1, 0, 0}, {1, 1, 1, 1, 0}, {1, 150, 1, 150, 0}, {2, 1, 0, 0, 1}, {2, 16, 0, 1, 1}, {2, 149, 1, 16, 0},
            {3, 13, 0, 0, 13}, {3, 28, 0, 1, 13}, {3, 29, 1, 2, 0}, {3, 149, 1, 10, 0},
        };
        for (int[] line : want) {
            for (int what = 0; what < 3; what++) {
                due("GREEDY of " + line[1] + " " + what, s.greedy(line[0], line[1], what), line[what + 2]);
            }
        }
    }

    private void blunderIsTheLeast() {
        begin("BLUNDER: the least number (0 .. 150) of the SET for which GREEDY does not come out or takes more");
        text("of a 1;of b 2 3;of c 6 10 15;of d 2 15;of e 14 15;of f 3 7 11;");
        // 2 and 2; 6 and 6; 8 times 2; 14 and 14; 3 times 3
        int[] want = {-2, 4, 12, 16, 28, 9};
        for (int set = 0; set < want.length; set++) {
            due("BLUNDER " + set, s.blunder(set), want[set]);
        }
        for (int x = 3; x < 149; x += 2) {
            s.drop(1, x);
        }
        due("2 149", s.blunder(1), 150);
        yes("drop", s.drop(1, 149));
        due("2 151", s.blunder(1), -2);
    }

    private void kunzRoundsDown() {
        begin("KUNZ of a rest r (1 .. the least GENERATOR less 1): .. divided by that GENERATOR, rounded down");
        text("of a 1;of b 2 3;of c 6 10 15;of d 14 15;of e 8 9 10 11 12 13 14 15;");
        due("of all 0", s.kunz(0, 0), NONE);
        due("of all 1", s.kunz(0, 1), NONE);
        due("2 3: 0", s.kunz(1, 0), NONE);
        due("2 3: 1", s.kunz(1, 1), 1);
        due("2 3: 2", s.kunz(1, 2), NONE);
        int[] six = {NONE, 4, 3, 2, 1, 5, NONE};
        for (int r = 0; r < six.length; r++) {
            due("6 10 15: " + r, s.kunz(2, r), six[r]);
        }
        for (int r = 1; r < 14; r++) {
            due("14 15: " + r, s.kunz(3, r), r);
        }
        due("14 15: 14", s.kunz(3, 14), NONE);
        for (int r = 1; r < 8; r++) {
            due("8 .. 15: " + r, s.kunz(4, r), 1);
        }
    }

    private void childrenAboveTop() {
        begin("CHILDREN: it without one of its GENERATORS that are above TOP, the least first");
        text("of a 1;of b 2 3;of c 5 6 7 9;of d 3 7 11;of e 6 10 15;of f 8 9 10 11 12 13 14 15;");
        row("child 0", i -> s.child(0, i), 1);
        row("child 1", i -> s.child(1, i), 2, 3);
        row("child 2", i -> s.child(2, i), 9);
        row("child 3", i -> s.child(3, i), 11);
        row("child 4", i -> s.child(4, i));
        row("child 5", i -> s.child(5, i), 8, 9, 10, 11, 12, 13, 14, 15);
    }

    private void belowJustNTimes() {
        begin("BELOW n: how many SETS there are that come to it in just n times to the PARENT (n 0: itself)");
        text("of a 1;of b 2 3;of c 5 6 7 9;of d 3 7 11;of e 6 10 15;of f 8 9 10 11 12 13 14 15;");
        int[][] want = {{1, 1, 2}, {1, 2, 4}, {1, 1, 0}, {1, 1, 0}, {1, 0, 0}, {1, 8, 31}};
        for (int set = 0; set < want.length; set++) {
            for (int n = 0; n < 3; n++) {
                due("BELOW " + n + " of " + set, s.below(set, n), want[set][n]);
            }
        }
    }

    private void meets(int set, int other, int genus, int first, int second) {
        due("MEETING " + set + " " + other, s.meeting(set, other, 0), genus);
        due("times from " + set, s.meeting(set, other, 1), first);
        due("times from the other, " + other, s.meeting(set, other, 2), second);
        due("MEETING " + other + " " + set, s.meeting(other, set, 0), genus);
        due("times from " + other, s.meeting(other, set, 1), second);
        due("times from the other, " + set, s.meeting(other, set, 2), first);
    }

    private void meetingIsTheFirst() {
        begin("MEETING of two: the first SET to which both come, each by as many times to the PARENT as it may be");
        // GAPS: none; 1; 1 2 4 7; 1 2 4; 1 2 4 5; 1 3 5
        text("of a 1;of b 2 3;of c 3 5;of d 3 5 7;of e 3 7 8;of f 2 7;");
        meets(0, 0, 0, 0, 0);
        meets(2, 2, 4, 0, 0);
        meets(0, 1, 0, 0, 1);
        meets(1, 5, 1, 0, 2);
        meets(2, 3, 3, 1, 0);
        meets(2, 4, 3, 1, 1);
        meets(3, 4, 3, 0, 1);
        meets(2, 5, 1, 3, 2);
        meets(0, 2, 0, 0, 4);
        // where a GAP was
        text("of a 3 5;of b 3 5;of c 2 7;");
        yes("add", s.add(1, 7));
        meets(0, 1, 3, 1, 0);
        yes("add", s.add(1, 4));
        meets(0, 1, 2, 2, 0);
        yes("add", s.add(2, 5));
        meets(0, 2, 1, 3, 1);
    }

    private void listInItsOrder() {
        begin("LIST of a GENUS: .. that one is ahead that has the first number in which they are unlike");
        int[][][] want = {
            {{1}},
            {{2, 3}},
            {{2, 5}, {3, 4, 5}},
            {{2, 7}, {3, 4}, {3, 5, 7}, {4, 5, 6, 7}},
            {{2, 9}, {3, 5}, {3, 7, 8}, {4, 5, 6}, {4, 5, 7}, {4, 6, 7, 9}, {5, 6, 7, 8, 9}},
        };
        for (int genus = 0; genus < want.length; genus++) {
            int g = genus;
            due("LIST " + genus, s.list(genus, NONE, NONE), want[genus].length);
            for (int i = 0; i < want[genus].length; i++) {
                int at = i;
                row("LIST " + genus + " " + i, k -> s.list(g, at, k), want[genus][i]);
            }
        }
    }

    private void aboveHasAllOfOne() {
        begin("ABOVE: all SETS that have all of one");
        text("of a 1;of b 2 3;of c 3 4 5;of d 4 5 6 7;of e 4 6 9;of f 5 6 9;");
        int[] want = {1, 2, 3, 5, 12, 13};
        for (int set = 0; set < want.length; set++) {
            due("ABOVE " + set, s.above(set), want[set]);
        }
    }

    private void numbersOfGapsInBits() {
        begin("Each of them has some of its GAPS: as a number, in bits (1 the least GAP, 2 the next one, ..)");
        // GAPS 1 2 4 5: those with 4 and with 5; GAPS 1 2 3: with 2 and with 3; GAPS 1 2 3 4 5: with 2 4 and with 3 5
        text("of a 3 7 8;of b 4 5 6 7;of c 6 7 8 9 10 11;of d 3 5;");
        row("piece 0", i -> s.piece(0, i), 4, 8);
        row("piece 1", i -> s.piece(1, i), 2, 4);
        row("piece 2", i -> s.piece(2, i), 2 + 8, 4 + 16);
        row("piece 3", i -> s.piece(3, i), 0);
    }

    private void piecesAreTheFewest() {
        begin("PIECES of a SET: the fewest of those ABOVE that are LONE and of which just it is what is of all");
        text("of a 1;of b 2 3;of c 5 6 8;of d 7 8 9 10 11 12 13;of e 5 11 12 13 14;of f 3 4 5;");
        row("piece 0", i -> s.piece(0, i), 0);
        row("piece 1", i -> s.piece(1, i), 0);
        row("piece 2", i -> s.piece(2, i), 16, 36);
        row("piece 3", i -> s.piece(3, i), 24, 42, 52);
        row("piece 4", i -> s.piece(4, i), 112, 176, 212, 232);
        row("piece 5", i -> s.piece(5, i), 0);
    }

    private void piecesByTheFirst() {
        begin("PIECES: the least first; of as few those of which the first one is least, then the second, and so on");
        // so few are 24 96, 40 80 and 80 170
        text("of a 8 9 10 12 13 14 15;of b 6 8 9 11;of c 8 9 10 11 12 13 14 15;of d 5 9 11 12 13;of e 7 8 10 11 12 13;");
        row("piece 0", i -> s.piece(0, i), 24, 96);
        row("piece 1", i -> s.piece(1, i), 4, 64);
        row("piece 2", i -> s.piece(2, i), 42, 52, 88);
        row("piece 3", i -> s.piece(3, i), 48, 84, 104);
        row("piece 4", i -> s.piece(4, i), 40, 48, 88);
    }

    private void whoNames1HasLost() {
        begin("GAME: two in turn name a GAP; who names 1 has lost");
        text("of a 1;of b 2 3;of c 3 4 5;of d 2 5;of e 2 15;of f 4 5 6 7;");
        row("good 0", i -> s.good(0, i));
        row("good 1", i -> s.good(1, i));
        // after 2, or 3, there is 1 alone
        row("good 2", i -> s.good(2, i), 2);
        row("good 3", i -> s.good(3, i), 3);
        row("good 4", i -> s.good(4, i), 3);
        // 2 leaves 1 and 3, 3 leaves 1 and 2: the other one takes what is left but 1
        row("good 5", i -> s.good(5, i));
    }

    private void goodWhateverTheOtherNames() {
        begin("GOOD GAPS: those by naming which one can win, whatever the other one names");
        text("of a 7 8 9 10 11 12 13;of b 5 6 9;of c 8 9 10 13 11 14 15;of d 8 9 10 11 12 14 15;of e 6 8 9 10 11 13;of f 5 6 8;");
        row("good 0", i -> s.good(0, i), 4, 5, 6);
        row("good 1", i -> s.good(1, i), 8);
        row("good 2", i -> s.good(2, i), 12);
        row("good 3", i -> s.good(3, i), 13);
        row("good 4", i -> s.good(4, i), 4, 5, 7);
        row("good 5", i -> s.good(5, i), 9);
    }

    private void byHand() {
        begin("By hand: a SPECIAL GAP is put into a SET, a GENERATOR is taken off it");
        text("of a 3 5;of b 3 5;");
        yes("put in", s.add(0, 7));
        gaps(0, 1, 2, 4);
        gaps(1, 1, 2, 4, 7);
        yes("taken off", s.drop(1, 3));
        gaps(0, 1, 2, 4);
        gaps(1, 1, 2, 3, 4, 7);
        no("a GAP that is not SPECIAL", s.add(0, 2));
        no("a GENERATOR put in", s.add(0, 3));
        no("a GAP taken off", s.drop(0, 4));
        no("no GENERATOR taken off", s.drop(0, 6));
        due("things", s.count(3), 2);
    }

    private void noneAheadOfMinus2() {
        begin("Where NONE and -2 could both be told, it is NONE, unless another order is told.");
        text("of a 9 10 11 12 13 14 15;of b 3 5;");
        due("no WAY, no such what", s.length(1, 7, 4), NONE);
        due("no WAY, no such what", s.length(1, 7, -1), NONE);
        due("no WAY", s.length(1, 7, 3), -2);
        due("no SET, no WAY", s.length(2, 7, 0), NONE);
        due("no SET, no WAY", s.chain(2, 7), NONE);
        due("no WAY", s.chain(1, 7), -2);
        due("not 0 .. 150, more than 60 WAYS", s.chain(1, 1500), NONE);
        due("below 0, no WAY", s.chain(1, -1), NONE);
        due("below 0, no WAY", s.length(1, -1, 0), NONE);
        due("no SET, no BLUNDER", s.blunder(2), NONE);
        due("no SET", s.listed(2), NONE);
        due("no SET", s.above(2), NONE);
        due("no SET", s.piece(2, NONE), NONE);
        due("no SET", s.good(2, NONE), NONE);
        for (int i = -3; i < 4; i++) {
            due("another order is told: GENUS above 8", s.piece(0, i), -2);
            due("another order is told: GENUS above 8", s.good(0, i), -2);
        }
        due("no such i", s.piece(1, 1), NONE);
        due("no such i", s.good(1, 1), NONE);
        due("no such what", s.count(8), NONE);
    }
}
