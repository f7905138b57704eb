/** Sentence by sentence, the edges of CODES, of shelves and of what is reckoned from them. */
public final class ShelfEdgeTest extends Bench {
    /** How many tugs for 1 to 16 meanings that bear 0, 1, 2, 3 lost. */
    private static final int[][] TUGS = {
        {1, 1, 2, 2, 3, 3, 3, 3, 4, 4, 4, 4, 4, 4, 4, 4},
        {1, 2, 3, 3, 4, 4, 4, 4, 5, 5, 5, 5, 5, 5, 5, 5},
        {1, 3, 5, 5, 6, 6, 6, 6, 7, 7, 7, 7, 7, 7, 7, 7},
        {1, 4, 6, 6, 7, 7, 7, 7, 8, 8, 8, 8, 8, 8, 8, 8}};
    /** The first 16 words that differ in more than 0, 1, 2, 3 tugs; fewer meanings have the first ones of these. */
    private static final int[][] WORDS = {
        {0, 1, 2, 3, 4, 5, 6, 7, 8, 9, 10, 11, 12, 13, 14, 15},
        {0, 3, 5, 6, 9, 10, 12, 15, 17, 18, 20, 23, 24, 27, 29, 30},
        {0, 7, 25, 30, 42, 45, 51, 52, 75, 76, 82, 85, 97, 102, 120, 127},
        {0, 15, 51, 60, 85, 90, 102, 105, 150, 153, 165, 170, 195, 204, 240, 255}};

    public static void main(String[] args) {
        codeBounds();
        codeWords();
        readBounds();
        readNearest();
        spreads();
        shelveBounds();
        emptyAtFirst();
        putInstead();
        fitBounds();
        pairBounds();
        pairsOfAll();
        pairsOfSeveral();
        pairsOfFew();
        crossedBounds();
        crossedOfAll();
        crossedHalf();
        crossedLines();
        restBounds();
        restsOfAll();
        restsOfNone();
        leaverRows();
        leaverEmpty();
        leaversOfAll();
        leaversOfNothing();
        close();
    }

    private static void codeBounds() {
        of(19, "CODE for m (1 .. 16) meanings that bears e (0 .. 3) lost. NONE: not with 8, no such ones");
        TugLake x = new TugLake();
        int[] ms = {-1, 0, 17, 18, FAR, LOW};
        int[] es = {-1, 4, 5, FAR, LOW};
        for (int m : ms) {
            for (int e = 0; e <= 3; e++) {
                due("code(" + m + ", " + e + ", NONE)", x.code(m, e, NONE), NONE);
                due("code(" + m + ", " + e + ", 0)", x.code(m, e, 0), NONE);
                due("read(" + m + ", " + e + ", 0)", x.read(m, e, 0), NONE);
                due("spread(" + m + ", " + e + ")", x.spread(m, e), NONE);
            }
        }
        for (int e : es) {
            for (int m = 1; m <= 16; m += 5) {
                due("code(" + m + ", " + e + ", NONE)", x.code(m, e, NONE), NONE);
                due("code(" + m + ", " + e + ", 0)", x.code(m, e, 0), NONE);
                due("read(" + m + ", " + e + ", 0)", x.read(m, e, 0), NONE);
                due("spread(" + m + ", " + e + ")", x.spread(m, e), NONE);
            }
        }
        TugLake y = new TugLake();
        for (int e = 0; e <= 3; e++) {
            for (int m = 1; m <= 16; m++) {
                due("code(" + m + ", " + e + ", NONE)", y.code(m, e, NONE), TUGS[e][m - 1]);
                due("with a lake the same", lake(THREE).code(m, e, NONE), TUGS[e][m - 1]);
            }
        }
    }

    // Taking from 0 up asks only the words below: how many tugs there are tells only where it ends.
    private static void codeWords() {
        of(19, "the i-th word of the first m of these");
        for (int e = 0; e <= 3; e++) {
            for (int m = 1; m <= 16; m++) {
                TugLake x = new TugLake();
                for (int i = 0; i < m; i++) {
                    due("code(" + m + ", " + e + ", " + i + ")", x.code(m, e, i), WORDS[e][i]);
                }
                int[] bad = {m, m + 1, 16, -2, -3, FAR, LOW};
                for (int i : bad) {
                    due("code(" + m + ", " + e + ", " + i + ")", x.code(m, e, i), NONE);
                }
            }
        }
    }

    private static void readBounds() {
        of(41, "a word of as many tugs. NONE: no such ones (as for CODE; word 0 ..)");
        for (int e = 0; e <= 3; e++) {
            for (int m = 1; m <= 16; m++) {
                TugLake x = new TugLake();
                int all = 1 << TUGS[e][m - 1];
                int last = e == 0 && m == all ? all - 1 : NONE;
                due("a word of the code", x.read(m, e, WORDS[e][m - 1]), m - 1);
                due("the first word", x.read(m, e, 0), 0);
                if (last != NONE) {
                    due("the last word there can be", x.read(m, e, last), last);
                }
                int[] bad = {-1, all, all + 1, 256, FAR, LOW};
                for (int word : bad) {
                    due("read(" + m + ", " + e + ", " + word + ")", x.read(m, e, word), NONE);
                }
            }
        }
        TugLake x = new TugLake();
        due("the last word of one tug", x.read(1, 0, 1), 0);
        due("one more tug", x.read(1, 0, 2), NONE);
        due("the last word of eight tugs", x.read(16, 3, 255), 15);
        due("one more tug", x.read(16, 3, 256), NONE);
    }

    private static void readNearest() {
        of(41, "the meaning whose word differs least from a word (of several: none)");
        TugLake x = new TugLake();
        for (int i = 0; i < 16; i++) {
            for (int tug = 0; tug < 7; tug++) {
                due("one of seven tugs lost", x.read(16, 2, WORDS[2][i] ^ 1 << tug), i);
            }
        }
        TugLake y = new TugLake();
        for (int i = 0; i < 16; i++) {
            for (int tug = 0; tug < 8; tug++) {
                due("one of eight tugs lost", y.read(16, 3, WORDS[3][i] ^ 1 << tug), i);
            }
            due("two of eight: of several, none", y.read(16, 3, WORDS[3][i] ^ 9), NONE);
            due("two of eight: of several, none", y.read(16, 3, WORDS[3][i] ^ 3), NONE);
        }
        TugLake z = new TugLake();
        for (int word = 0; word < 32; word++) {
            boolean even = Integer.bitCount(word) % 2 == 0;
            boolean there = false;
            for (int other : WORDS[1]) {
                there |= other == word;
            }
            due("an odd word is as near to several", even == there ? 1 : 0, 1);
            if (!even) {
                due("an odd word", z.read(16, 1, word), NONE);
            }
        }
        int[] near = {0, 0, 0, NONE, 0, NONE, NONE, 1, 0, NONE, NONE, 1, NONE, 1, 1, 1};
        for (int word = 0; word < 16; word++) {
            due("read(2, 3, " + word + ")", z.read(2, 3, word), near[word]);
        }
    }

    private static void spreads() {
        of(42, "the least by which two of the words differ. NONE: one meaning alone");
        TugLake x = new TugLake();
        for (int e = 0; e <= 3; e++) {
            due("spread(1, " + e + ")", x.spread(1, e), NONE);
            for (int m = 2; m <= 16; m++) {
                due("spread(" + m + ", " + e + ")", x.spread(m, e), e + 1);
            }
        }
    }

    private static void shelveBounds() {
        of(20, "TUGS (deaf false), THROWS (true) are put on a shelf. False: no LAKE, no such shelf (0 .. 3)");
        for (int shelf = -1; shelf <= 4; shelf++) {
            no("no lake", new TugLake().shelve(false, shelf));
            no("no lake", new TugLake().shelve(true, shelf));
        }
        TugLake x = lake(THREE);
        int[] bad = {-1, 4, 5, FAR, LOW};
        for (int shelf : bad) {
            no("shelve(false, " + shelf + ")", x.shelve(false, shelf));
            no("shelve(true, " + shelf + ")", x.shelve(true, shelf));
        }
        for (int shelf = 0; shelf < 4; shelf++) {
            yes("shelve(false, " + shelf + ")", x.shelve(false, shelf));
            due("THROWS are not on it", x.fit(shelf, shelf, 0), NONE);
            yes("shelve(true, " + shelf + ")", x.shelve(true, shelf));
            due("both are", x.fit(shelf, shelf, 0), 20);
            no("shelve(false, 4)", x.shelve(false, 4));
        }
    }

    private static void emptyAtFirst() {
        of(20, "four of both; empty at first");
        TugLake x = lake(THREE);
        for (int one = 0; one < 4; one++) {
            due("pair(" + one + ")", x.pair(one), NONE);
            due("rests", x.rests(one, one, NONE), NONE);
            for (int other = 0; other < 4; other++) {
                due("fit(" + one + ", " + other + ", 0)", x.fit(one, other, 0), NONE);
                due("crossed", x.crossed(10 * one + other, 10 * one + other, 0), NONE);
            }
        }
        due("nobody to leave", x.leavers(9999, NONE), 0);
        due("nobody to leave", x.leavers(9999, 0), NONE);
        for (int shelf = 0; shelf < 4; shelf++) {
            TugLake y = lake(THREE);
            y.shelve(false, shelf);
            for (int one = 0; one < 4; one++) {
                due("rests: TUGS alone on " + shelf, y.rests(one, one, NONE), one == shelf ? 0 : NONE);
                due("pair", y.pair(one), NONE);
            }
            TugLake z = lake(THREE);
            z.shelve(true, shelf);
            for (int one = 0; one < 4; one++) {
                due("rests: THROWS alone on " + shelf, z.rests(one, one, NONE), NONE);
                due("pair", z.pair(one), NONE);
                due("fit", z.fit(one, shelf, 0), NONE);
            }
        }
    }

    private static void putInstead() {
        of(20, "are put on a shelf (instead of what was there)");
        TugLake x = game();
        due("ahead", x.fit(2, 1, 0), 25);
        x.tugs(0);
        yes("shelve", x.shelve(false, 2));
        due("other TUGS", x.fit(2, 1, 0), 15);
        throwsAre(x, 0, 0);
        yes("shelve", x.shelve(true, 1));
        due("other THROWS", x.fit(2, 1, 0), 10);
        due("other shelves stay", x.fit(3, 3, 0), 25);
        due("other shelves stay", x.fit(1, 2, 0), 15);
        throwsAre(x, 1, 1);
        x.tugs(11);
        due("what is told behind it changes no shelf", x.fit(2, 1, 0), 10);
    }

    // Look 0 alone: where the deaf throws for sign 0 and for sign 1.
    private static void throwsAre(TugLake x, int none, int one) {
        x.throwTo(0, 0, none);
        x.throwTo(0, 1, one);
    }

    /**
     * Two places, sounds 1 and 2, fish 20 and 30. TUGS: shelves 0 and 1 never tug, 2 tugs for sound 1, 3 for sound 2.
     * THROWS: all to place 0; sign 1 to place 0; all to place 1; sign 0 to place 0. So FITS, twice, are
     * 20 30 30 20, 20 30 30 20, 20 50 30 0, 20 0 30 50.
     */
    private static TugLake game() {
        TugLake x = lake("ps1f20;ps2f30");
        int[] tugs = {0, 0, 100, 10};
        for (int shelf = 0; shelf < 4; shelf++) {
            x.tugs(tugs[shelf]);
            x.shelve(false, shelf);
            throwsAre(x, shelf == 1 || shelf == 2 ? 1 : 0, shelf / 2);
            x.shelve(true, shelf);
        }
        return x;
    }

    private static void fitBounds() {
        of(21, "FIT: above (0), below (1). NONE: an empty shelf, no such ones");
        due("no lake", new TugLake().fit(0, 0, 0), NONE);
        TugLake x = game();
        int[][] twice = {{20, 30, 30, 20}, {20, 30, 30, 20}, {20, 50, 30, 0}, {20, 0, 30, 50}};
        for (int one = 0; one < 4; one++) {
            for (int other = 0; other < 4; other++) {
                fraction("fit " + one + " " + other, x.fit(one, other, 0), x.fit(one, other, 1), twice[one][other] / 2, 1);
            }
        }
        int[] bad = {-1, 4, 5, 10, FAR, LOW};
        for (int shelf : bad) {
            due("fit(" + shelf + ", 0, 0)", x.fit(shelf, 0, 0), NONE);
            due("fit(0, " + shelf + ", 0)", x.fit(0, shelf, 0), NONE);
            due("fit(" + shelf + ", 3, 1)", x.fit(shelf, 3, 1), NONE);
        }
        int[] parts = {-1, 2, FAR, LOW};
        for (int part : parts) {
            due("fit(0, 0, " + part + ")", x.fit(0, 0, part), NONE);
        }
        x.set(1, true);
        due("in thunder sound 0 is heard", x.fit(3, 3, 0), 10);
        x.set(1, false);
        x.wet(50);
        fraction("half is lost, as it is now", x.fit(3, 3, 0), x.fit(3, 3, 1), 35, 2);
    }

    private static void pairBounds() {
        of(22, "PAIRS: the shelf of THROWS. NONE: it has none, is empty, no such one");
        due("no lake", new TugLake().pair(0), NONE);
        TugLake x = game();
        int[] bad = {-1, 4, 5, FAR, LOW};
        for (int shelf : bad) {
            due("pair(" + shelf + ")", x.pair(shelf), NONE);
        }
        TugLake one = lake(THREE);
        one.shelve(false, 1);
        one.shelve(false, 2);
        one.shelve(true, 3);
        due("as good ones: the lowest of TUGS", one.pair(1), 3);
        due("it has none", one.pair(2), NONE);
        due("empty", one.pair(0), NONE);
        due("empty", one.pair(3), NONE);
    }

    private static void pairsOfAll() {
        of(22, "again and again, of shelves not yet paired, those two that FIT best (of several the lowest of TUGS, then of THROWS)");
        TugLake x = game();
        int[] want = {2, 0, 1, 3};
        for (int shelf = 0; shelf < 4; shelf++) {
            due("pair(" + shelf + ")", x.pair(shelf), want[shelf]);
        }
        x.set(1, true);
        // In thunder all are as the first one: 20 30 30 20.
        int[] thunder = {1, 2, 0, 3};
        for (int shelf = 0; shelf < 4; shelf++) {
            due("in thunder pair(" + shelf + ")", x.pair(shelf), thunder[shelf]);
        }
        x.set(1, false);
        x.tugs(10);
        x.shelve(false, 0);
        // Now 0 and 3 fit best, then 2 and 1, then 1 and 2, then 3 and 0.
        int[] other = {3, 2, 1, 0};
        for (int shelf = 0; shelf < 4; shelf++) {
            due("another one: pair(" + shelf + ")", x.pair(shelf), other[shelf]);
        }
    }

    private static void pairsOfSeveral() {
        of(22, "(of several the lowest of TUGS, then of THROWS)");
        TugLake x = lake("p;p");
        for (int shelf = 3; shelf >= 0; shelf--) {
            x.shelve(false, shelf);
            x.shelve(true, shelf);
        }
        for (int shelf = 0; shelf < 4; shelf++) {
            due("all alike: pair(" + shelf + ")", x.pair(shelf), shelf);
        }
        TugLake nothing = lake("pf0;pf0");
        for (int shelf = 0; shelf < 4; shelf++) {
            nothing.shelve(false, shelf);
            nothing.shelve(true, shelf);
        }
        for (int shelf = 0; shelf < 4; shelf++) {
            due("all catch nothing: pair(" + shelf + ")", nothing.pair(shelf), shelf);
        }
    }

    private static void pairsOfFew() {
        of(22, "of shelves (not empty)");
        TugLake x = lake("ps1f20;ps2f30");
        throwsAre(x, 0, 0);
        x.shelve(true, 3);
        x.shelve(false, 3);
        due("the last of both", x.pair(3), 3);
        throwsAre(x, 1, 1);
        x.shelve(true, 0);
        due("a better one", x.pair(3), 0);
        x.shelve(false, 0);
        due("the lower one has the better one", x.pair(0), 0);
        due("the other what is left", x.pair(3), 3);
        x.shelve(false, 2);
        due("three for two", x.pair(2), 3);
        due("three for two", x.pair(3), NONE);
    }

    private static void crossedBounds() {
        of(38, "(codes: 10 times the shelf of TUGS and that of THROWS): above (0), below (1). NONE: an empty shelf, no such ones");
        due("no lake", new TugLake().crossed(0, 0, 0), NONE);
        TugLake x = game();
        for (int code = -20; code <= 60; code++) {
            boolean there = code >= 0 && code / 10 < 4 && code % 10 < 4;
            due("crossed(" + code + ", 0, 0) is told", x.crossed(code, 0, 0) == NONE ? 0 : 1, there ? 1 : 0);
            due("crossed(33, " + code + ", 1) is told", x.crossed(33, code, 1) == NONE ? 0 : 1, there ? 1 : 0);
        }
        int[] bad = {100, 103, 333, FAR, LOW};
        for (int code : bad) {
            due("crossed(" + code + ", 0, 0)", x.crossed(code, 0, 0), NONE);
            due("crossed(0, " + code + ", 0)", x.crossed(0, code, 0), NONE);
        }
        int[] parts = {-1, 2, FAR, LOW};
        for (int part : parts) {
            due("crossed(0, 0, " + part + ")", x.crossed(0, 0, part), NONE);
        }
        TugLake few = lake(THREE);
        few.shelve(false, 1);
        few.shelve(true, 2);
        for (int one = 0; one < 4; one++) {
            for (int other = 0; other < 4; other++) {
                int code = 10 * one + other;
                due("crossed(" + code + ", 12) of one boat is told", few.crossed(code, 12, 0) == NONE ? 0 : 1, code == 12 ? 1 : 0);
                due("crossed(12, " + code + ") of one boat is told", few.crossed(12, code, 0) == NONE ? 0 : 1, code == 12 ? 1 : 0);
            }
        }
    }

    // What a boat of game() catches: bit 0 place 0, bit 1 place 1.
    private static int catchOf(int tugs, int throwing) {
        int[][] bits = {{1, 2, 2, 1}, {1, 2, 2, 1}, {1, 3, 2, 0}, {1, 0, 2, 3}};
        return bits[tugs][throwing];
    }

    private static int gainOf(int one, int other) {
        int mine = catchOf(one / 10, one % 10);
        int others = catchOf(other / 10, other % 10);
        int first = (mine & 1) == 0 ? 0 : (others & 1) == 0 ? 20 : 10;
        int second = (mine & 2) == 0 ? 0 : (others & 2) == 0 ? 30 : 15;
        return first + second;
    }

    private static void crossedOfAll() {
        of(38, "then the one has half of what it is worth; who throws elsewhere has nothing, who alone throws there has all");
        for (int one = 0; one < 40; one = one % 10 == 3 ? one + 7 : one + 1) {
            TugLake x = game();
            for (int other = 0; other < 40; other = other % 10 == 3 ? other + 7 : other + 1) {
                fraction("crossed " + one + " " + other, x.crossed(one, other, 0), x.crossed(one, other, 1), gainOf(one, other), 2);
            }
        }
    }

    private static void crossedHalf() {
        of(38, "half of what it is worth, cut, and so the other");
        int[][] halves = {{0, 0}, {1, 0}, {2, 1}, {3, 1}, {98, 49}, {99, 49}};
        for (int[] row : halves) {
            TugLake x = lake("pf" + row[0] + ";pw0");
            x.shelve(false, 0);
            x.shelve(true, 0);
            fraction("half of " + row[0], x.crossed(0, 0, 0), x.crossed(0, 0, 1), row[1], 1);
        }
        TugLake most = lakeWith("pw9;pw9", "y:999");
        most.shelve(false, 0);
        most.shelve(true, 0);
        fraction("half of 999 at one of two places", most.crossed(0, 0, 0), most.crossed(0, 0, 1), 499, 2);
        most.worth(NONE);
        fraction("as it is worth now", most.crossed(0, 0, 0), most.crossed(0, 0, 1), 5, 2);
    }

    private static void crossedLines() {
        of(38, "each with a line of its own: LOST or not each by itself: above 10,000 times all WEIGHTS");
        TugLake x = lake("ps1f40;pw0;bt10");
        x.tugs(100);
        throwsAre(x, 1, 0);
        x.shelve(false, 0);
        x.shelve(true, 0);
        // Caught by 90 of 100, by itself: 90 * 90 half, 90 * 10 all.
        fraction("both kept or lost", x.crossed(0, 0, 0), x.crossed(0, 0, 1), 20 * 81 + 40 * 9, 100);
        x.tugs(0);
        throwsAre(x, 0, 1);
        x.shelve(false, 1);
        x.shelve(true, 1);
        fraction("the other always", x.crossed(0, 11, 0), x.crossed(0, 11, 1), 18, 1);
        fraction("the one always", x.crossed(11, 0, 0), x.crossed(11, 0, 1), 22, 1);
        fraction("by what is lost", x.crossed(1, 0, 0), x.crossed(1, 0, 1), 11, 5);
        x.wet(99);
        fraction("99 of 100 lost", x.crossed(0, 0, 0), x.crossed(0, 0, 1), 20 + 40 * 99, 10000);
    }

    private static void restBounds() {
        of(39, "RESTS (shelves of TUGS): how many (i NONE), the i-th. NONE: an empty shelf of TUGS, no such ones");
        due("no lake", new TugLake().rests(0, 0, NONE), NONE);
        TugLake x = game();
        int[] bad = {-1, 4, 5, FAR, LOW};
        for (int shelf : bad) {
            due("rests(" + shelf + ", 0, NONE)", x.rests(shelf, 0, NONE), NONE);
            due("rests(0, " + shelf + ", NONE)", x.rests(0, shelf, NONE), NONE);
            due("rests(" + shelf + ", 0, 0)", x.rests(shelf, 0, 0), NONE);
        }
        due("how many", x.rests(2, 3, NONE), 1);
        int[] is = {1, 2, 16, -2, -3, FAR, LOW};
        for (int i : is) {
            due("rests(2, 3, " + i + ")", x.rests(2, 3, i), NONE);
        }
        TugLake few = lake(THREE);
        few.shelve(true, 0);
        few.shelve(false, 1);
        for (int one = 0; one < 4; one++) {
            for (int other = 0; other < 4; other++) {
                due("one shelf of TUGS", few.rests(one, other, NONE), one == 1 && other == 1 ? 1 : NONE);
            }
        }
    }

    private static void restsAre(TugLake x, int one, int other, int... want) {
        due("rests(" + one + ", " + other + ", NONE)", x.rests(one, other, NONE), want.length);
        for (int i = 0; i < want.length; i++) {
            due("rests(" + one + ", " + other + ", " + i + ")", x.rests(one, other, i), want[i]);
        }
        due("no more", x.rests(one, other, want.length), NONE);
    }

    private static void restsOfAll() {
        of(39, "(10 times the one's and the other's) by which neither has more by another shelf of THROWS alone, rising");
        TugLake x = game();
        restsAre(x, 2, 3, 13);
        restsAre(x, 3, 2, 31);
        restsAre(x, 1, 2, 11, 21);
        restsAre(x, 2, 1, 11, 12);
        restsAre(x, 3, 1, 31, 32);
        restsAre(x, 1, 3, 13, 23);
        restsAre(x, 0, 1, 1, 2, 10, 13, 20, 23, 31, 32);
        restsAre(x, 2, 2, 11);
        restsAre(x, 3, 3, 33);
    }

    private static void restsOfNone() {
        of(39, "(none empty): empty shelves of THROWS are no other ones");
        TugLake x = lake("ps1f20;ps2f30");
        x.shelve(false, 0);
        restsAre(x, 0, 0);
        throwsAre(x, 0, 0);
        x.shelve(true, 2);
        restsAre(x, 0, 0, 22);
        throwsAre(x, 1, 1);
        x.shelve(true, 3);
        restsAre(x, 0, 0, 23, 32);
        of(39, "neither has more: as much is not more");
        TugLake same = lake("pf0;pf0");
        same.shelve(false, 0);
        for (int shelf = 0; shelf < 4; shelf++) {
            same.shelve(true, shelf);
        }
        due("all of four by four", same.rests(0, 0, NONE), 16);
        due("the last", same.rests(0, 0, 15), 33);
        due("no more", same.rests(0, 0, 16), NONE);
    }

    private static void leaverRows() {
        of(40, "(digits to the base 10, shelf 0 the highest, 9: none; each once at most). NONE: no such row, no such one, no LAKE");
        due("no lake", new TugLake().leavers(9999, NONE), NONE);
        due("no lake", new TugLake().leavers(9999, 0), NONE);
        TugLake x = game();
        int told = 0;
        for (int row = 0; row <= 9999; row++) {
            int[] digits = {row / 1000, row / 100 % 10, row / 10 % 10, row % 10};
            boolean can = true;
            for (int one = 0; one < 4; one++) {
                can &= digits[one] <= 3 || digits[one] == 9;
                for (int other = 0; other < one; other++) {
                    can &= digits[one] == 9 || digits[one] != digits[other];
                }
            }
            boolean mixed = row % 37 == 0 || can;
            if (mixed) {
                TugLake y = told % 300 == 299 ? game() : x;
                x = y;
                told++;
                due("leavers(" + row + ", NONE) is told", y.leavers(row, NONE) == NONE ? 0 : 1, can ? 1 : 0);
            }
        }
        int[] bad = {-1, -123, 10000, 10123, 99999, FAR, LOW};
        for (int row : bad) {
            due("leavers(" + row + ", NONE)", x.leavers(row, NONE), NONE);
        }
    }

    private static void leaverEmpty() {
        of(40, "not an empty one; an empty shelf of TUGS has 9");
        for (int one = 0; one < 4; one++) {
            for (int other = 0; other < 4; other++) {
                TugLake x = lake(THREE);
                x.shelve(false, one);
                x.shelve(true, other);
                int[] tens = {1000, 100, 10, 1};
                for (int shelf = 0; shelf < 4; shelf++) {
                    for (int with = 0; with < 9; with++) {
                        int row = 9999 - (9 - with) * tens[shelf];
                        due("leavers(" + row + ", NONE) of " + one + other, x.leavers(row, NONE), shelf == one && with == other ? 0 : NONE);
                    }
                }
                due("alone", x.leavers(9999, NONE), 1);
                due("alone", x.leavers(9999, 0), 10 * one + other);
                due("alone, no more", x.leavers(9999, 1), NONE);
            }
        }
    }

    private static void leaversAre(TugLake x, int row, int... want) {
        due("leavers(" + row + ", NONE)", x.leavers(row, NONE), want.length);
        for (int i = 0; i < want.length; i++) {
            due("leavers(" + row + ", " + i + ")", x.leavers(row, i), want[i]);
        }
        due("no more", x.leavers(row, want.length), NONE);
        due("leavers(" + row + ", -2)", x.leavers(row, -2), NONE);
    }

    private static void leaversOfAll() {
        of(40, "not with one another, that would both have a greater FIT so than now (none: less than any), rising");
        TugLake x = game();
        leaversAre(x, 2013);
        leaversAre(x, 123, 21);
        leaversAre(x, 3210, 33);
        leaversAre(x, 9993, 0, 1, 2, 10, 11, 12, 20, 21, 22);
        leaversAre(x, 9999, 0, 1, 2, 3, 10, 11, 12, 13, 20, 21, 22, 23, 30, 31, 32, 33);
        // Shelf 2 with 3 catches nothing, shelf 3 with 1 neither; what 0 and 2 of THROWS have is no less than they would.
        leaversAre(x, 231, 1, 21, 33);
        // Shelf 3 of TUGS has 2 (30), shelf 2 has 0 (20): 1 and 3 are free.
        leaversAre(x, 9902, 1, 3, 11, 13, 21, 33);
        TugLake same = lake("p;p");
        for (int shelf = 0; shelf < 4; shelf++) {
            same.shelve(false, shelf);
            same.shelve(true, shelf);
        }
        leaversAre(same, 123);
        leaversAre(same, 3210);
        leaversAre(same, 1239, 30);
    }

    private static void leaversOfNothing() {
        of(40, "(none: less than any): a FIT of nothing is greater than none");
        TugLake x = lake("pf0;pf0");
        x.shelve(false, 2);
        x.shelve(true, 1);
        leaversAre(x, 9999, 21);
        leaversAre(x, 9919);
        x.shelve(false, 0);
        leaversAre(x, 9919);
        x.shelve(true, 3);
        leaversAre(x, 9919, 3);
    }
}
