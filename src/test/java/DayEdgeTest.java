import java.util.ArrayList;
import java.util.List;

/** Sentence by sentence, the edges of what is SEEN, of DAYS, draws, learning, UNDOING and IMAGES. */
public final class DayEdgeTest extends Bench {
    private static final long[] SEEDS = {0, 1, -1, 2, 77, Long.MAX_VALUE, Long.MIN_VALUE, Long.MAX_VALUE - 1, Long.MIN_VALUE + 1,
        6364136223846793005L, -6364136223846793005L, 1L << 33, 1L << 32, (1L << 33) - 1, 0x5555555555555555L};

    public static void main(String[] args) {
        seeBounds();
        seeTwenty();
        meantBounds();
        meantOfSix();
        meantNoneLost();
        seeds();
        seedsWithoutLake();
        drawsOfWeights();
        drawsOfPlaces();
        drawOfSign();
        drawBelowLost();
        fortyDays();
        wasBounds();
        deafLearns();
        deafLearnsNot();
        blindLearns();
        blindLastSign();
        bothLearn();
        weatherOfDays();
        undoBounds();
        undoAll();
        undoTold();
        undoKeeps();
        hoards();
        saids();
        runs();
        copies();
        imageBounds();
        imageKeeps();
        imageOfDays();
        imageInstead();
        imageOfThisLake();
        counts();
        close();
    }

    private static void seeBounds() {
        of(23, "SEEN: the shoal at a PLACE, a throw to a PLACE: how many there are. NONE: no such ones");
        due("no lake", new TugLake().see(0, 0), NONE);
        for (int places = 2; places <= 6; places++) {
            TugLake x = lake("p" + ";p".repeat(places - 1));
            int many = 0;
            int[] bad = {-1, places, 6, FAR, LOW};
            for (int place : bad) {
                due("see(" + place + ", 0)", x.see(place, 0), NONE);
                due("see(0, " + place + ")", x.see(0, place), NONE);
                due("see(" + place + ", " + place + ")", x.see(place, place), NONE);
            }
            due("count(9)", x.count(9), 0);
            int[][] good = {{0, 0}, {places - 1, 0}, {0, places - 1}, {places - 1, places - 1}};
            for (int[] pair : good) {
                many++;
                due("see(" + pair[0] + ", " + pair[1] + ")", x.see(pair[0], pair[1]), many);
                due("see(" + places + ", 0)", x.see(places, 0), NONE);
                due("count(9)", x.count(9), many);
            }
        }
        due("a place without weight, too", lake("p;pw0").see(1, 1), 1);
    }

    private static void seeTwenty() {
        of(23, "(20 at most). NONE: there are 20");
        TugLake x = lake("ps1;ps2;bk2");
        throwsAre(x, 0, 1);
        for (int many = 1; many <= 19; many++) {
            due("see", x.see(0, 0), many);
        }
        due("sound 1 tugs 0", x.meant(NONE), 8);
        due("the 20th", x.see(1, 1), 20);
        due("it counts: sound 2 tugs 1", x.meant(NONE), 4);
        due("a 21st", x.see(0, 1), NONE);
        due("a 21st", x.see(1, 1), NONE);
        due("there are 20", x.count(9), 20);
        due("it changed nothing", x.meant(NONE), 4);
        due("it changed nothing", x.meant(0), 10);
    }

    private static void throwsAre(TugLake x, int none, int one) {
        x.throwTo(0, 0, none);
        x.throwTo(0, 1, one);
    }

    private static void meantBounds() {
        of(24, "MEANT: how many (i NONE), the i-th (rising). NONE: no such one, no LAKE");
        due("no lake", new TugLake().meant(NONE), NONE);
        due("no lake", new TugLake().meant(0), NONE);
        int[] powers = {1, 16, 81, 256};
        for (int signs = 1; signs <= 4; signs++) {
            TugLake x = lake("p;p;bk" + signs);
            int many = powers[signs - 1];
            due("nothing seen: all below those told", x.meant(NONE), many);
            int last = -1;
            for (int i = 0; i < many; i++) {
                int row = x.meant(i);
                yes("rising", row > last);
                last = row;
            }
            due("the last one", last, 1111 * (signs - 1));
            int[] bad = {many, many + 1, -2, -3, FAR, LOW};
            for (int i : bad) {
                due("meant(" + i + ")", x.meant(i), NONE);
            }
            x.see(0, 1);
            due("none can have been", x.meant(NONE), 0);
            due("none can have been", x.meant(0), NONE);
            due("none can have been", x.meant(-2), NONE);
        }
    }

    private static void meantOfSix() {
        of(24, "TUGS (SIGNS below those told) by which, THROWS as they are, all that is SEEN was so");
        TugLake x = lake(SIX);
        x.tugs(123);
        x.answer();
        int[] left = {64, 16, 4, 1};
        for (int place = 0; place < 4; place++) {
            x.see(place, place);
            due("each sound seen", x.meant(NONE), left[place]);
        }
        due("the one", x.meant(0), 123);
        x.see(4, 4);
        x.see(5, 5);
        due("the same again", x.meant(NONE), 1);
        x.throwTo(0, 2, 1);
        due("THROWS as they are: no sign throws to 2", x.meant(NONE), 0);
        x.throwTo(0, 2, 2);
        x.set(0, true);
        due("in fog look 0: no sign throws to 4", x.meant(NONE), 0);
        x.set(0, false);
        x.set(1, true);
        due("in thunder one sign for all", x.meant(NONE), 0);
        x.set(1, false);
        x.see(0, 1);
        due("both cannot be", x.meant(NONE), 0);
        TugLake y = lake(SIX);
        y.tugs(123);
        y.answer();
        y.see(0, 3);
        due("a throw elsewhere tells, too: sound 0 tugs 3", y.meant(NONE), 64);
        due("the first", y.meant(0), 3000);
        due("the last", y.meant(63), 3333);
        y.set(1, true);
        due("in thunder sound 0 is heard", y.meant(NONE), 64);
    }

    private static void meantNoneLost() {
        of(24, "none LOST");
        TugLake x = lake("ps1;ps2;bt99");
        throwsAre(x, 1, 0);
        x.see(0, 0);
        due("sign 1 alone throws there", x.meant(NONE), 8);
        due("the first", x.meant(0), 100);
        x.wet(0);
        due("none lost, the same", x.meant(NONE), 8);
    }

    private static void seeds() {
        of(25, "The seed of draws from now on: true");
        for (long seed : SEEDS) {
            TugLake x = lake(SIX);
            yes("seed(" + seed + ")", x.seed(seed));
            drawn(x, new Draws(seed), 20, "seed " + seed);
            yes("seed(" + seed + ") again", x.seed(seed));
            drawn(x, new Draws(seed), 20, "again seed " + seed);
        }
        TugLake x = lake(SIX);
        drawn(x, new Draws(0), 40, "0 at first");
    }

    // Days of SIX with TUGS 0: a draw of six for each.
    private static void drawn(TugLake x, Draws draws, int days, String what) {
        for (int i = 0; i < days; i++) {
            yes(what + " day", x.day() != NONE);
            due(what + " day " + i, x.was(x.count(10) - 1, 0), draws.draw(6));
        }
    }

    private static void seedsWithoutLake() {
        of(25, "The seed of draws from now on: true, without a LAKE, too");
        for (long seed : SEEDS) {
            TugLake x = new TugLake();
            yes("seed(" + seed + ")", x.seed(seed));
            tell(x, SIX);
            x.text(0);
            drawn(x, new Draws(seed), 10, "told ahead of the lake " + seed);
        }
    }

    private static void drawsOfWeights() {
        of(26, "the shoal by a draw of all WEIGHTS (PLACES by numbers)");
        String[] texts = {"pw0;pw9;pw0;pw3;pw0;pw8", "pw9;pw9;pw9;pw9;pw9;pw9", "pw0;pw0;pw0;pw0;pw0;pw1", "pw1;pw0;pw0;pw0;pw0;pw0",
            "p;p", "pw1;pw9", "pw9;pw1", "pw5;pw0;pw5"};
        for (String text : texts) {
            TugLake x = lake(text);
            int[] weights = new int[x.count(0)];
            int all = 0;
            for (int place = 0; place < weights.length; place++) {
                weights[place] = x.place(place, 0);
                all += weights[place];
            }
            Draws draws = new Draws(12345);
            x.seed(12345);
            for (int day = 0; day < 40; day++) {
                x.day();
                int rest = draws.draw(all);
                int place = 0;
                while (rest >= weights[place]) {
                    rest -= weights[place];
                    place++;
                }
                due(text + " day " + day, x.was(day, 0), place);
            }
        }
    }

    private static void drawsOfPlaces() {
        of(26, "a draw of k: (x shifted right by 33, without sign) modulo k");
        // The first draws of seed 0, reckoned by hand: 6 of them as 5 0 1 4 5 5 2 5 0 3.
        int[] want = {5, 0, 1, 4, 5, 5, 2, 5, 0, 3};
        Draws draws = new Draws(0);
        TugLake x = lake(SIX);
        for (int i = 0; i < want.length; i++) {
            due("the draws that the tests reckon", draws.draw(6), want[i]);
            x.day();
            due("the draws of days", x.was(i, 0), want[i]);
        }
    }

    private static void drawOfSign() {
        of(26, "then, if the SIGN is not 0, a draw of 100");
        for (int lost = 0; lost <= 99; lost += 33) {
            TugLake none = lake(SIX + "t" + lost);
            none.seed(3);
            drawn(none, new Draws(3), 20, "sign 0: no draw, lost " + lost);
            TugLake some = lake(SIX + "t" + lost);
            some.seed(3);
            some.tugs(1111);
            Draws draws = new Draws(3);
            for (int day = 0; day < 20; day++) {
                some.day();
                due("where, lost " + lost, some.was(day, 0), draws.draw(6));
                due("sign, lost " + lost, some.was(day, 1), draws.draw(100) < lost ? 0 : 1);
            }
        }
    }

    private static void drawBelowLost() {
        of(26, "a draw of 100 below LOST: it is");
        for (long seed = 0; seed < 60; seed++) {
            Draws draws = new Draws(seed);
            draws.draw(2);
            int drawn = draws.draw(100);
            for (int lost = Math.max(0, drawn - 1); lost <= Math.min(99, drawn + 1); lost++) {
                TugLake x = lake("ps1;ps1;bk4t" + lost);
                x.tugs(300);
                x.seed(seed);
                x.day();
                due("drawn " + drawn + ", lost " + lost, x.was(0, 1), drawn < lost ? 0 : 3);
            }
        }
    }

    private static void fortyDays() {
        of(26, "Put by (40 at most, no more then). NONE: no LAKE, there are 40");
        due("no lake", new TugLake().day(), NONE);
        TugLake x = lake(SIX);
        x.set(2, true);
        x.set(3, true);
        x.seed(9);
        for (int day = 0; day < 40; day++) {
            due("days", x.count(10), day);
            yes("day " + day, x.day() != NONE);
        }
        List<Integer> ahead = daysOf(x);
        int tugs = x.count(5);
        due("a 41st", x.day(), NONE);
        due("a 42nd", x.day(), NONE);
        due("days", x.count(10), 40);
        yes("it changed nothing", ahead.equals(daysOf(x)) && tugs == x.count(5));
        due("undo()", x.undo(), 39);
        yes("there is room again", x.day() != NONE);
        yes("and the draws were not moved on", ahead.equals(daysOf(x)));
        due("a 41st again", x.day(), NONE);
    }

    private static List<Integer> daysOf(TugLake x) {
        List<Integer> all = new ArrayList<>();
        int days = x.count(10);
        for (int day = 0; day < days; day++) {
            all.add(x.was(day, 0) * 100000 + x.was(day, 1) * 10000 + x.was(day, 2));
        }
        return all;
    }

    private static void wasBounds() {
        of(27, "Of a DAY: 0 where the shoal was, 1 the SIGN that came, 2 what was caught. NONE: no such ones");
        due("no lake", new TugLake().was(0, 0), NONE);
        TugLake x = lake("ps1f50;pw0;bk3");
        x.tugs(200);
        for (int days = 0; days <= 3; days++) {
            for (int what = -1; what <= 3; what++) {
                for (int day = -1; day <= days + 1; day++) {
                    int[] want = {0, 2, 50};
                    boolean there = day >= 0 && day < days && what >= 0 && what < 3;
                    due("was(" + day + ", " + what + ") of " + days, x.was(day, what), there ? want[what] : NONE);
                }
            }
            due("day()", x.day(), 50);
        }
        due("far", x.was(FAR, 0), NONE);
        due("far", x.was(LOW, 0), NONE);
        due("far", x.was(0, FAR), NONE);
        due("far", x.was(0, LOW), NONE);
        for (int days = 4; days < 40; days++) {
            x.day();
        }
        due("the 40th", x.was(39, 2), 50);
        due("a 41st", x.was(40, 2), NONE);
    }

    private static void deafLearns() {
        of(26, "If the deaf LEARNS (at first not) and caught nothing by a throw elsewhere, it throws there for that LOOK and SIGN");
        for (int look = 0; look < 4; look++) {
            for (int sign = 0; sign < 4; sign++) {
                TugLake x = lake("pw0;pw0;ps2l" + look + "f7;pw0;bk4");
                x.tugs(10 * sign);
                due("at first it does not", x.day(), 0);
                due("at first it does not", x.thrown(look, sign), 0);
                x.set(2, true);
                due("elsewhere", x.day(), 0);
                for (int cast = 0; cast < 16; cast++) {
                    due("thrown " + cast, x.thrown(cast / 4, cast % 4), cast == 4 * look + sign ? 2 : 0);
                }
                due("there", x.day(), 7);
                due("it stays", x.thrown(look, sign), 2);
                x.throwTo(look, sign, 3);
                x.set(2, false);
                due("elsewhere", x.day(), 0);
                due("no more", x.thrown(look, sign), 3);
            }
        }
    }

    private static void deafLearnsNot() {
        of(26, "by a throw elsewhere: what is caught there of worth 0 teaches nothing, nor changes anything");
        TugLake x = lake("pf0;pw0;bk2");
        x.set(2, true);
        x.set(3, true);
        due("caught 0 there", x.day(), 0);
        due("the throw stays", x.thrown(0, 0), 0);
        due("the tug stays", x.count(5), 0);
        TugLake y = lake("pw0;pf0;bk2");
        y.set(2, true);
        due("caught 0 elsewhere", y.day(), 0);
        due("it throws there, though it is worth nothing", y.thrown(0, 0), 1);
        due("caught 0 there", y.day(), 0);
        due("the throw stays", y.thrown(0, 0), 1);
    }

    private static void blindLearns() {
        of(26, "If the blind LEARNS (at first not): behind a DAY on which the throw was elsewhere it tugs for the SOUND heard the next SIGN");
        int[] tens = {1000, 100, 10, 1};
        for (int sound = 0; sound < 4; sound++) {
            TugLake x = lake("pw0;ps" + sound + ";bk4");
            x.day();
            due("at first it does not", x.count(5), 0);
            x.set(3, true);
            int[] want = {1, 2, 3, 0, 1};
            for (int next : want) {
                due("elsewhere", x.day(), 0);
                due("the next one", x.count(5), tens[sound] * next);
            }
            x.throwTo(0, 1, 1);
            due("there", x.day(), 10);
            due("it stays", x.count(5), tens[sound]);
            x.set(3, false);
            x.throwTo(0, 1, 0);
            due("elsewhere", x.day(), 0);
            due("no more", x.count(5), tens[sound]);
        }
    }

    private static void blindLastSign() {
        of(26, "the next SIGN below those told from then on (behind the last one 0)");
        for (int signs = 1; signs <= 4; signs++) {
            TugLake x = lake("pw0;ps3;bk" + signs);
            x.tugs(1110 * (signs - 1));
            x.set(3, true);
            int sign = 0;
            for (int day = 0; day < 9; day++) {
                x.day();
                sign = (sign + 1) % signs;
                due("signs " + signs + " day " + day, x.count(5), 1110 * (signs - 1) + sign);
            }
        }
    }

    private static void bothLearn() {
        of(26, "what the deaf LEARNS is for the SIGN that came");
        for (long seed = 0; seed < 20; seed++) {
            Draws draws = new Draws(seed);
            draws.draw(1);
            boolean isLost = draws.draw(100) < 50;
            TugLake x = lake("pw0;ps1l2;bk3t50");
            x.tugs(200);
            x.seed(seed);
            x.set(2, true);
            x.set(3, true);
            due("elsewhere", x.day(), 0);
            due("the sign that came", x.was(0, 1), isLost ? 0 : 2);
            due("learnt for sign 0", x.thrown(2, 0), isLost ? 1 : 0);
            due("learnt for sign 2", x.thrown(2, 2), isLost ? 0 : 1);
            due("the blind goes on from the SIGN tugged", x.count(5), 0);
        }
    }

    private static void weatherOfDays() {
        of(26, "A DAY: THUNDER, FOG as they are");
        TugLake x = lake("pw0;ps3l3;bk4");
        x.tugs(1002);
        x.set(2, true);
        x.set(3, true);
        x.set(0, true);
        x.set(1, true);
        x.day();
        due("sign of sound 0", x.was(0, 1), 1);
        due("learnt for look 0", x.thrown(0, 1), 1);
        due("learnt for sound 0", x.count(5), 2002);
        x.set(0, false);
        x.day();
        due("learnt for look 3", x.thrown(3, 2), 1);
        due("learnt for sound 0", x.count(5), 3002);
        x.set(1, false);
        x.set(0, true);
        x.day();
        due("sign of sound 3", x.was(2, 1), 2);
        due("learnt for look 0", x.thrown(0, 2), 1);
        due("learnt for sound 3", x.count(5), 3003);
    }

    private static void undoBounds() {
        of(28, "The latest DAY is UNDONE: how many there are. NONE: none");
        due("no lake", new TugLake().undo(), NONE);
        TugLake x = lake(SIX);
        due("no days", x.undo(), NONE);
        x.day();
        due("the only one", x.undo(), 0);
        due("none", x.undo(), NONE);
        due("none", x.undo(), NONE);
        for (int i = 0; i < 40; i++) {
            x.day();
        }
        for (int i = 39; i >= 0; i--) {
            due("undo()", x.undo(), i);
            due("count(10)", x.count(10), i);
            due("it is gone", x.was(i, 0), NONE);
            due("the one ahead is there", x.was(i - 1, 0) == NONE ? 0 : 1, i > 0 ? 1 : 0);
        }
        due("none", x.undo(), NONE);
    }

    private static String stateOf(TugLake x) {
        StringBuilder state = new StringBuilder().append(x.count(5));
        for (int cast = 0; cast < 4; cast++) {
            state.append(' ').append(x.thrown(cast / 2, cast % 2));
        }
        return state.append(' ').append(x.count(11)).toString();
    }

    private static void undoAll() {
        of(28, "The latest can be UNDONE (THROWS, draws, too); TUGS are as ahead, too");
        for (long seed = 1; seed <= 6; seed++) {
            TugLake x = lake("ps1f20;ps2l1f30;ps1l1;pl1f7;bk2t40");
            x.set(2, true);
            x.set(3, true);
            x.seed(seed);
            List<String> states = new ArrayList<>();
            for (int day = 0; day < 20; day++) {
                states.add(stateOf(x));
                x.day();
            }
            List<Integer> ahead = daysOf(x);
            for (int day = 19; day >= 0; day--) {
                due("undo()", x.undo(), day);
                yes("as ahead of day " + day, stateOf(x).equals(states.get(day)));
            }
            for (int day = 0; day < 20; day++) {
                x.day();
            }
            yes("the same days come again", daysOf(x).equals(ahead));
        }
    }

    private static void undoTold() {
        of(28, "what was told between the DAY and its undoing is as ahead of the DAY, too");
        TugLake x = lake(SIX);
        x.tugs(1230);
        x.seed(4);
        x.day();
        x.day();
        x.tugs(3);
        x.throwTo(3, 3, 5);
        x.seed(123456);
        due("undo()", x.undo(), 1);
        due("TUGS", x.count(5), 1230);
        due("THROWS", x.thrown(3, 3), 0);
        int where = x.was(0, 0);
        due("undo()", x.undo(), 0);
        x.day();
        due("draws", x.was(0, 0), where);
        due("draws", x.was(0, 0), new Draws(4).draw(6));
    }

    private static void undoKeeps() {
        of(28, "UNDONE: nothing else is as ahead");
        TugLake x = lake(SIX);
        x.day();
        x.set(0, true);
        x.set(1, true);
        x.set(2, true);
        x.set(3, true);
        x.wet(31);
        x.see(1, 1);
        x.shelve(false, 2);
        x.shelve(true, 2);
        due("undo()", x.undo(), 0);
        int[] whats = {2, 6, 7, 8, 9, 13};
        int[] want = {31, 1, 1, 1, 1, 1};
        for (int i = 0; i < whats.length; i++) {
            due("count(" + whats[i] + ")", x.count(whats[i]), want[i]);
        }
        yes("shelves", x.fit(2, 2, 0) != NONE);
    }

    private static void hoards() {
        of(43, "what was caught in DAYS at a PLACE (0), how often it was there (1). NONE: no such ones");
        due("no lake", new TugLake().hoard(0, 0), NONE);
        TugLake x = lake("ps1f1;ps2f10;ps3f50;pw0;pf9;pf20;bk2t30");
        x.tugs(11);
        x.answer();
        int[][] want = new int[6][2];
        for (int days = 0; days <= 40; days++) {
            if (days == 0 || days == 1 || days == 39 || days == 40) {
                for (int place = -1; place <= 6; place++) {
                    for (int what = -1; what <= 2; what++) {
                        boolean there = place >= 0 && place < 6 && what >= 0 && what < 2;
                        due("hoard(" + place + ", " + what + ") of " + days, x.hoard(place, what), there ? want[place][what] : NONE);
                    }
                }
            }
            if (days < 40) {
                int caught = x.day();
                want[x.was(days, 0)][0] += caught;
                want[x.was(days, 0)][1]++;
            }
        }
        due("a place without weight", x.hoard(3, 1), 0);
        int[] bad = {FAR, LOW, 6};
        for (int number : bad) {
            due("hoard(" + number + ", 0)", x.hoard(number, 0), NONE);
            due("hoard(0, " + number + ")", x.hoard(0, number), NONE);
        }
        int ahead = x.hoard(x.was(39, 0), 1);
        int where = x.was(39, 0);
        x.undo();
        due("an undone day does not count", x.hoard(where, 1), ahead - 1);
    }

    private static void saids() {
        of(44, "how often a SIGN came for a SOUND (as told, THUNDER not asked). NONE: no LAKE, no such ones (SOUND 0 .. 3, SIGN 0 .. 3)");
        for (int sound = -1; sound <= 4; sound++) {
            due("no lake", new TugLake().said(sound, 0), NONE);
        }
        for (int signs = 1; signs <= 4; signs++) {
            TugLake x = lake("p;ps1;ps2;ps3;bk" + signs + "t20");
            x.tugs(1111 * (signs - 1));
            x.seed(signs);
            int[][] want = new int[4][4];
            for (int day = 0; day < 40; day++) {
                if (day == 20) {
                    x.set(1, true);
                }
                x.day();
                want[x.was(day, 0)][x.was(day, 1)]++;
            }
            for (int sound = -1; sound <= 4; sound++) {
                for (int sign = -1; sign <= 4; sign++) {
                    boolean there = sound >= 0 && sound < 4 && sign >= 0 && sign < 4;
                    due("said(" + sound + ", " + sign + ")", x.said(sound, sign), there ? want[sound][sign] : NONE);
                }
            }
            due("far", x.said(FAR, 0), NONE);
            due("far", x.said(0, FAR), NONE);
            due("far", x.said(LOW, LOW), NONE);
        }
        due("no days", lake("p;p").said(0, 0), 0);
        due("no days, a SIGN not below those told", lake("p;p;bk1").said(3, 3), 0);
    }

    private static void runs() {
        of(45, "the most DAYS one behind the other on which 0 was caught. NONE: no LAKE");
        due("no lake", new TugLake().run(), NONE);
        TugLake x = lake("pw0;p");
        due("no days", x.run(), 0);
        // By hand: o nothing caught, x something caught.
        String days = "ooxxoxoooxooxooooxooooxo";
        int[] most = {1, 2, 2, 2, 2, 2, 2, 2, 3, 3, 3, 3, 3, 3, 3, 3, 4, 4, 4, 4, 4, 4, 4, 4};
        for (int day = 0; day < days.length(); day++) {
            x.throwTo(0, 0, days.charAt(day) == 'o' ? 0 : 1);
            x.day();
            due("run() of " + days.substring(0, day + 1), x.run(), most[day]);
        }
        TugLake all = lake("pw0;p");
        for (int day = 1; day <= 40; day++) {
            all.day();
            due("run()", all.run(), day);
        }
        TugLake none = lake("p;pw0");
        for (int day = 1; day <= 3; day++) {
            none.day();
            due("all days with a catch", none.run(), 0);
        }
        TugLake worthless = lake("pf0;pw0");
        worthless.day();
        due("caught 0 by a throw there", worthless.run(), 1);
        TugLake behind = lake("pw0;p");
        behind.throwTo(0, 0, 1);
        behind.day();
        behind.throwTo(0, 0, 0);
        behind.day();
        behind.day();
        due("the last ones", behind.run(), 2);
        behind.undo();
        due("an undone day does not count", behind.run(), 1);
    }

    private static void copies() {
        of(46, "in how many of all LOOKS and SIGNS (below those told) THROWS are the ANSWER. NONE: no LAKE");
        due("no lake", new TugLake().copy(), NONE);
        for (int signs = 1; signs <= 4; signs++) {
            TugLake x = lake("pf1;pf0;bk" + signs);
            due("all", x.copy(), 4 * signs);
            for (int cast = 0; cast < 4 * signs; cast++) {
                x.throwTo(cast / signs, cast % signs, 1);
                due("one less", x.copy(), 4 * signs - 1 - cast);
            }
            x.answer();
            due("all again", x.copy(), 4 * signs);
        }
        TugLake x = lake(SIX);
        due("by TUGS as they are: two are not", x.copy(), 14);
        x.tugs(123);
        due("by TUGS as they are: five are not", x.copy(), 11);
        x.set(0, true);
        due("in fog: four are not", x.copy(), 12);
        x.set(1, true);
        due("in both: one is not", x.copy(), 15);
    }

    private static void imageBounds() {
        of(47, "how many DAYS. NONE: no LAKE");
        due("no lake", new TugLake().image(), NONE);
        TugLake x = lake(SIX);
        for (int day = 0; day <= 40; day++) {
            due("image()", x.image(), day);
            due("back()", x.back(), day);
            x.day();
        }
        of(48, "BACK: how many DAYS. NONE: no IMAGE of this LAKE");
        due("no lake", new TugLake().back(), NONE);
        TugLake y = lake(SIX);
        due("no image", y.back(), NONE);
        y.day();
        due("no image", y.back(), NONE);
        due("the day stays", y.count(10), 1);
    }

    private static void imageKeeps() {
        of(47, "An IMAGE keeps TUGS, THROWS, FOG, THUNDER, DAYS, draws, LOST, too");
        for (int way = 0; way < 8; way++) {
            TugLake x = lake(SIX + "t30");
            TugLake y = lake(SIX + "t30");
            for (TugLake each : new TugLake[] {x, y}) {
                each.seed(way);
                each.tugs(123 * (way % 4));
                each.answer();
                each.throwTo(2, 2, way % 6);
                each.set(2, true);
                each.set(3, way % 2 == 0);
                each.set(0, way / 2 % 2 == 1);
                each.set(1, way / 4 == 1);
                each.wet(50 + way);
                for (int day = 0; day < 3 * way; day++) {
                    each.day();
                }
                due("image()", each.image(), 3 * way);
            }
            // What an image keeps is told otherwise, and days go by.
            x.tugs(3210);
            x.answer();
            x.set(0, way / 2 % 2 == 0);
            x.set(1, way / 4 == 0);
            x.wet(9);
            for (int day = 0; day < way; day++) {
                x.undo();
            }
            x.seed(777);
            for (int day = 0; day < 2 * way; day++) {
                x.day();
            }
            due("back()", x.back(), 3 * way);
            same("back, way " + way, shown(x), shown(y));
        }
    }

    private static void imageOfDays() {
        of(48, "BACK: they are so again: the DAYS with all that undoing them asks");
        TugLake x = lake(SIX);
        x.set(2, true);
        x.set(3, true);
        for (int day = 0; day < 40; day++) {
            x.day();
        }
        List<Integer> ahead = daysOf(x);
        x.image();
        for (int day = 0; day < 40; day++) {
            x.undo();
        }
        x.seed(1000);
        x.tugs(3333);
        for (int day = 0; day < 20; day++) {
            x.day();
        }
        due("back()", x.back(), 40);
        yes("all days", daysOf(x).equals(ahead));
        for (int day = 39; day >= 20; day--) {
            due("undo()", x.undo(), day);
        }
        TugLake y = lake(SIX);
        y.set(2, true);
        y.set(3, true);
        for (int day = 0; day < 20; day++) {
            y.day();
        }
        for (int look = 0; look < 4; look++) {
            for (int sign = 0; sign < 4; sign++) {
                due("THROWS as ahead", x.thrown(look, sign), y.thrown(look, sign));
            }
        }
        due("TUGS as ahead", x.count(5), y.count(5));
        due("draws as ahead", x.day(), y.day());
        due("back() again and again", x.back(), 40);
        due("back() again and again", x.back(), 40);
    }

    private static void imageInstead() {
        of(47, "An IMAGE (instead of the one ahead)");
        TugLake x = lake(SIX);
        x.tugs(1);
        x.image();
        x.tugs(2);
        due("image()", x.image(), 0);
        x.tugs(3);
        due("back()", x.back(), 0);
        due("the latter one", x.count(5), 2);
        x.tugs(3);
        x.back();
        due("it stays", x.count(5), 2);
        of(47, "What an IMAGE does not keep");
        x.set(2, true);
        x.set(3, true);
        x.see(0, 0);
        x.shelve(false, 0);
        x.shelve(true, 0);
        tell(x, "y:7");
        x.text(1);
        x.worth(0);
        tell(x, "rest");
        x.back();
        int[] whats = {3, 4, 8, 9, 12, 13};
        int[] want = {1, 4, 1, 1, 0, 1};
        for (int i = 0; i < whats.length; i++) {
            due("count(" + whats[i] + ")", x.count(whats[i]), want[i]);
        }
        yes("shelves", x.fit(0, 0, 0) != NONE);
        due("worth", x.place(5, 4), 7);
    }

    private static void imageOfThisLake() {
        of(48, "NONE: no IMAGE of this LAKE");
        TugLake x = lake(SIX);
        x.day();
        x.image();
        tell(x, "p;x");
        due("a lake that is refused", x.text(0), NONE);
        due("the image stays", x.back(), 1);
        x.end(0);
        tell(x, SIX);
        due("another lake, told alike", x.text(0), 6);
        due("no image of this one", x.back(), NONE);
        due("no days", x.count(10), 0);
        due("image()", x.image(), 0);
        due("back()", x.back(), 0);
    }

    private static void counts() {
        of(49, "0 PLACES .. 13 whether the blind LEARNS. (0, 1, 2, 5: 0 without a LAKE.) HIDDEN for others");
        int[] bad = {-1, -2, 14, 15, 100, HIDDEN, FAR, LOW};
        TugLake none = new TugLake();
        TugLake x = lake("p;p;p;bk3t45");
        for (int what : bad) {
            due("no lake: count(" + what + ")", none.count(what), HIDDEN);
            due("count(" + what + ")", x.count(what), HIDDEN);
        }
        int[] first = {3, 3, 45, 0, 0, 0, 0, 0, 0, 0, 0, 0, NONE, 0};
        int[] without = {0, 0, 0, 0, 0, 0, 0, 0, 0, 0, 0, 0, NONE, 0};
        for (int what = 0; what < 14; what++) {
            due("no lake: count(" + what + ")", none.count(what), without[what]);
            due("count(" + what + ")", x.count(what), first[what]);
        }
        tell(x, "y:f*2");
        x.text(1);
        tell(x, "y:999");
        x.text(1);
        x.worth(1);
        tell(x, "some");
        x.tugs(2101);
        x.see(2, 2);
        x.see(2, 2);
        x.seed(6);
        int caught = 0;
        for (int day = 0; day < 40; day++) {
            caught += x.day();
        }
        for (int what = 0; what < 4; what++) {
            x.set(what, true);
        }
        x.wet(7);
        int[] full = {3, 3, 7, 2, 4, 2101, 1, 1, 1, 2, 40, caught, 1, 1};
        for (int what = 0; what < 14; what++) {
            due("count(" + what + ") of all", x.count(what), full[what]);
        }
        of(49, "11 all that was caught in them");
        TugLake most = lakeWith("p;pw0", "y:999");
        for (int day = 0; day <= 40; day++) {
            due("count(11)", most.count(11), 999L * day);
            most.day();
        }
        most.undo();
        due("an undone day does not count", most.count(11), 999L * 39);
    }
}
