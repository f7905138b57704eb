/** Sentence by sentence, the edges of TUGS and THROWS, of MEANS and of the best that can be done. */
public final class CatchEdgeTest extends Bench {
    public static void main(String[] args) {
        flags();
        tugDigits();
        tugBounds();
        throwBounds();
        atFirst();
        thunderAndFog();
        lostParts();
        neverLost();
        meanParts();
        answersLowest();
        answersOfSix();
        tongueSigns();
        tongueOfSix();
        tongueLeast();
        senses();
        settledEdges();
        settledStrictly();
        worstEdges();
        wetBounds();
        loneBounds();
        loneOfSix();
        aloneLowest();
        knotBounds();
        knotWords();
        knotsLost();
        bestKnotBounds();
        bestKnotsOfSix();
        weatherBounds();
        weatherOfSix();
        skills();
        casesOfSix();
        casesByChance();
        casesWeight();
        mixedEdges();
        mixedOfSix();
        close();
    }

    private static TugLake answered(String text, int tugs) {
        TugLake x = lake(text);
        x.tugs(tugs);
        x.answer();
        return x;
    }

    // For SIX: which places are caught, each a bit, if all is caught always or never.
    private static int caught(TugLake x) {
        return x.mean(0) * 6 / x.mean(1);
    }

    private static void flags() {
        of(8, "FOG (what 0), THUNDER (1), whether the deaf LEARNS (2), the blind (3). False: no LAKE, no such what, it is so");
        int[] counts = {6, 7, 8, 13};
        TugLake none = new TugLake();
        for (int what = -1; what <= 4; what++) {
            no("no lake: set(" + what + ", true)", none.set(what, true));
            no("no lake: set(" + what + ", false)", none.set(what, false));
        }
        for (int what = 0; what < 4; what++) {
            TugLake x = lake(THREE);
            no("at first not: set(" + what + ", false)", x.set(what, false));
            yes("set(" + what + ", true)", x.set(what, true));
            for (int other = 0; other < 4; other++) {
                due("count(" + counts[other] + ")", x.count(counts[other]), other == what ? 1 : 0);
            }
            no("it is so: set(" + what + ", true)", x.set(what, true));
            due("it stays so", x.count(counts[what]), 1);
            yes("set(" + what + ", false)", x.set(what, false));
            due("count(" + counts[what] + ")", x.count(counts[what]), 0);
            int[] bad = {-1, 4, 5, FAR, LOW};
            for (int other : bad) {
                no("set(" + other + ", true)", x.set(other, true));
                no("set(" + other + ", false)", x.set(other, false));
            }
        }
    }

    private static void tugDigits() {
        of(9, "TUGS: a SIGN for each SOUND, told as digits to the base 10: SOUND 0 the highest, then 1, 2, 3");
        int[] tens = {1000, 100, 10, 1};
        for (int sound = 0; sound < 4; sound++) {
            for (int sign = 0; sign < 4; sign++) {
                TugLake x = lake("ps" + sound + "f50;pf20;pf20;pf20;bk4");
                yes("tugs", x.tugs(tens[sound] * sign));
                for (int other = 1; other < 4; other++) {
                    x.throwTo(0, other, other);
                }
                // Place 0 is heard by its sound alone: it is caught by sign 0 alone.
                due("sound " + sound + " tugs " + sign, x.mean(0) * 4 / x.mean(1) >= 50 ? 1 : 0, sign == 0 ? 1 : 0);
                due("count(5)", x.count(5), tens[sound] * sign);
            }
        }
    }

    private static void tugBounds() {
        of(9, "False: no LAKE, a SIGN that is not below those told, out of bounds");
        no("no lake: tugs(0)", new TugLake().tugs(0));
        int[] tens = {1000, 100, 10, 1};
        for (int signs = 1; signs <= 4; signs++) {
            TugLake x = lake("p;p;bk" + signs);
            for (int ten : tens) {
                for (int sign = 0; sign <= 9; sign++) {
                    boolean can = sign < signs;
                    due("tugs(" + ten * sign + ") of " + signs, x.tugs(ten * sign) ? 1 : 0, can ? 1 : 0);
                    due("count(5)", x.count(5), can ? ten * sign : ten * (signs - 1));
                }
            }
            yes("all the highest", x.tugs(1111 * (signs - 1)));
            int[] bad = {-1, -1111, 9999, 10000, 10001, 11111, 1111 * signs, FAR, LOW};
            for (int tugs : bad) {
                no("tugs(" + tugs + ") of " + signs, x.tugs(tugs));
            }
            due("they stay", x.count(5), 1111 * (signs - 1));
        }
    }

    private static void throwBounds() {
        of(10, "False: no such ones (LOOK 0 .. 3, SIGN below those told)");
        no("no lake", new TugLake().throwTo(0, 0, 0));
        due("no lake: thrown", new TugLake().thrown(0, 0), NONE);
        due("no lake: answerTo", new TugLake().answerTo(0, 0), NONE);
        for (int signs = 1; signs <= 4; signs++) {
            int places = signs + 2;
            TugLake x = lake("p" + ";p".repeat(places - 1) + ";bk" + signs);
            for (int look = -1; look <= 4; look++) {
                for (int sign = -1; sign <= 4; sign++) {
                    boolean can = look >= 0 && look < 4 && sign >= 0 && sign < signs;
                    due("throwTo", x.throwTo(look, sign, places - 1) ? 1 : 0, can ? 1 : 0);
                    due("thrown", x.thrown(look, sign), can ? places - 1 : NONE);
                    due("answerTo", x.answerTo(look, sign), can ? 0 : NONE);
                }
            }
            int[] bad = {-1, places, 6, 7, 8, FAR, LOW};
            for (int place : bad) {
                no("throwTo(0, 0, " + place + ") of " + places, x.throwTo(0, 0, place));
                due("it stays", x.thrown(0, 0), places - 1);
            }
            int[] far = {FAR, LOW, 4096};
            for (int number : far) {
                no("far", x.throwTo(number, 0, 0) || x.throwTo(0, number, 0));
                due("far", x.thrown(number, 0), NONE);
                due("far", x.thrown(0, number), NONE);
                due("far", x.answerTo(number, 0), NONE);
                due("far", x.answerTo(0, number), NONE);
            }
        }
        TugLake x = lake("pf1;p;pw0;p;p;p;bk4");
        for (int cast = 0; cast < 16; cast++) {
            yes("each its own", x.throwTo(cast / 4, cast % 4, cast % 6));
        }
        for (int cast = 0; cast < 16; cast++) {
            due("each its own", x.thrown(cast / 4, cast % 4), cast % 6);
        }
    }

    private static void atFirst() {
        of(11, "THROWS: to a PLACE for each LOOK and SIGN that comes (0 at first); TUGS (0 at first)");
        TugLake x = lake(SIX);
        for (int look = 0; look < 4; look++) {
            for (int sign = 0; sign < 4; sign++) {
                due("thrown(" + look + ", " + sign + ")", x.thrown(look, sign), 0);
            }
        }
        due("tugs", x.count(5), 0);
        due("place 0 alone is caught", caught(x), 1);
    }

    private static void thunderAndFog() {
        of(14, "The blind hears SOUND of that PLACE (in THUNDER always 0), the deaf sees its LOOK (in FOG always 0)");
        TugLake x = answered(SIX, 123);
        due("clear", caught(x), 63);
        x.set(0, true);
        due("in fog", caught(x), 15);
        x.set(1, true);
        due("in both", caught(x), 1);
        x.set(0, false);
        due("in thunder", caught(x), 17);
        x.set(1, false);
        due("clear again", caught(x), 63);
        TugLake y = lake("ps3l3f20;ps3l3");
        y.tugs(1);
        y.throwTo(3, 1, 1);
        y.throwTo(3, 0, 1);
        y.throwTo(0, 1, 1);
        due("sound 3 and look 3: place 1", y.mean(0), 5);
        y.throwTo(3, 1, 0);
        due("sound 3 and look 3: place 0", y.mean(0), 10);
        y.set(1, true);
        due("sound 0 and look 3", y.mean(0), 5);
        y.set(0, true);
        due("sound 0 and look 0", y.mean(0), 10);
        y.set(1, false);
        due("sound 3 and look 0", y.mean(0), 5);
    }

    private static void lostParts() {
        of(14, "A SIGN that is LOST (so many of 100; SIGN 0 never) comes as 0; MEAN: all that is LOST or not by its 100th parts");
        int[] losts = {0, 1, 2, 25, 50, 98, 99};
        for (int lost : losts) {
            TugLake x = lake("ps1f99;pw0;bt" + lost);
            x.tugs(100);
            x.throwTo(0, 0, 1);
            due("kept " + (100 - lost) + " of 100", x.mean(0) * 100L, 99L * (100 - lost) * x.mean(1));
            x.throwTo(0, 0, 0);
            x.throwTo(0, 1, 1);
            due("lost " + lost + " of 100", x.mean(0) * 100L, 99L * lost * x.mean(1));
            x.throwTo(0, 1, 0);
            fraction("both ways", x.mean(0), x.mean(1), 99, 1);
        }
    }

    private static void neverLost() {
        of(14, "SIGN 0 never is LOST");
        TugLake x = lake("ps1f30;pw0;bt99");
        x.throwTo(0, 1, 1);
        fraction("sign 0 by 99 lost", x.mean(0), x.mean(1), 30, 1);
        x.throwTo(0, 0, 1);
        fraction("sign 0 comes alone", x.mean(0), x.mean(1), 0, 1);
    }

    private static void meanParts() {
        of(14, "a fraction made plain (0 is 0 by 1). NONE: no LAKE, no such part");
        due("no lake", new TugLake().mean(0), NONE);
        due("no lake", new TugLake().mean(1), NONE);
        TugLake x = lake("pw0;pw3f50;pw5;pw4");
        fraction("nothing", x.mean(0), x.mean(1), 0, 1);
        x.throwTo(0, 0, 1);
        fraction("150 of 12", x.mean(0), x.mean(1), 25, 2);
        x.throwTo(0, 0, 2);
        fraction("50 of 12", x.mean(0), x.mean(1), 25, 6);
        int[] bad = {-1, 2, FAR, LOW};
        for (int part : bad) {
            due("mean(" + part + ")", x.mean(part), NONE);
            due("worst(" + part + ")", x.worst(part), NONE);
            due("sense(" + part + ")", x.sense(false, false, part), NONE);
        }
        TugLake most = lakeWith("pw9;pw9;pw9;pw9;pw9;pw9", "y:999");
        fraction("the most by six", most.mean(0), most.mean(1), 333, 2);
        TugLake alone = lakeWith("pw9;pw0", "y:999");
        fraction("the most of all", alone.mean(0), alone.mean(1), 999, 1);
    }

    private static void answersLowest() {
        of(12, "the PLACE by which MEAN is greatest (of several the lowest; also where nothing ever comes so)");
        TugLake x = lake("pf9;pf10;pf10;pf9;pf10;pf1");
        due("of three the lowest", x.answerTo(0, 0), 1);
        due("where nothing comes so: sign", x.answerTo(0, 1), 0);
        due("where nothing comes so: look", x.answerTo(3, 0), 0);
        TugLake nothing = lake("pf0;pf0;pf0;pf0;pf0;pf0");
        due("of all, none of them worth anything", nothing.answerTo(0, 0), 0);
        TugLake weights = lake("pf9w9;pf40w2;pf27w3;pf99w0;pf81w1;p");
        due("81 80 81 0 81 10 by weights: the lowest", weights.answerTo(0, 0), 0);
        due("0 2 6 0 4 5 by worths and weights", lakeWith("pf9w9;pf40w2;pf27w3;pf99w0;pf81w1;p", "y:p").answerTo(0, 0), 2);
        of(12, "THROWS are the ANSWER from now on. False: no LAKE");
        no("no lake", new TugLake().answer());
        TugLake y = lake(SIX);
        for (int cast = 0; cast < 16; cast++) {
            y.throwTo(cast / 4, cast % 4, 5);
        }
        yes("answer()", y.answer());
        int[] want = {3, 0, 0, 0, 5, 0, 0, 0, 0, 0, 0, 0, 0, 0, 0, 0};
        for (int cast = 0; cast < 16; cast++) {
            due("thrown(" + cast / 4 + ", " + cast % 4 + ")", y.thrown(cast / 4, cast % 4), want[cast]);
        }
        y.tugs(123);
        due("TUGS do not change THROWS", y.thrown(0, 3), 0);
        due("but the ANSWER", y.answerTo(0, 3), 3);
    }

    private static void answersOfSix() {
        of(13, "ANSWER for a LOOK and a SIGN, TUGS as they are");
        int[][] clear = {{0, 1, 2, 3}, {4, 0, 0, 5}, {0, 0, 0, 0}, {0, 0, 0, 0}};
        int[][] fog = {{4, 1, 2, 5}, {0, 0, 0, 0}, {0, 0, 0, 0}, {0, 0, 0, 0}};
        int[][] thunder = {{3, 0, 0, 0}, {5, 0, 0, 0}, {0, 0, 0, 0}, {0, 0, 0, 0}};
        int[][] both = {{5, 0, 0, 0}, {0, 0, 0, 0}, {0, 0, 0, 0}, {0, 0, 0, 0}};
        int[][][] all = {clear, fog, thunder, both};
        for (int weather = 0; weather < 4; weather++) {
            TugLake x = lake(SIX);
            x.tugs(123);
            x.set(0, weather % 2 == 1);
            x.set(1, weather / 2 == 1);
            for (int look = 0; look < 4; look++) {
                for (int sign = 0; sign < 4; sign++) {
                    due("answerTo(" + look + ", " + sign + ") in " + weather, x.answerTo(look, sign), all[weather][look][sign]);
                }
            }
            due("THROWS stay", x.thrown(0, 1), 0);
        }
        // Sound 1 tugs 1; half is lost: as 0 come 10 and half of 20, of as good ones the lowest.
        TugLake half = lake("p;ps1f20;bt50");
        half.tugs(100);
        due("half of 20 is no more than 10", half.answerTo(0, 0), 0);
        half.wet(51);
        due("51 of 100 of 20 is more", half.answerTo(0, 0), 1);
        TugLake near = lakeWith("p;ps1;bt99", "y:99+p*2");
        near.tugs(100);
        due("99 of 100 of 101 is more than 99", near.answerTo(0, 0), 1);
        near.worth(NONE);
        due("99 of 100 of as much is less", near.answerTo(0, 0), 0);
        half.wet(49);
        due("49 of 100 of 20 is less", half.answerTo(0, 0), 0);
    }

    private static void tongueSigns() {
        of(15, "TONGUE with k (1 .. 4) SIGNS in place of those told. NONE: no LAKE, no such ones");
        due("no lake", new TugLake().tongue(1, 0), NONE);
        for (int signs = 1; signs <= 4; signs++) {
            TugLake x = lake(SIX.substring(0, SIX.length() - 1) + signs);
            int[] bad = {-1, 0, 5, 6, FAR, LOW};
            for (int k : bad) {
                due("tongue(" + k + ", 0)", x.tongue(k, 0), NONE);
            }
            int[] whats = {-1, 3, 4, FAR, LOW};
            for (int what : whats) {
                due("tongue(1, " + what + ")", x.tongue(1, what), NONE);
                due("tongue(4, " + what + ")", x.tongue(4, what), NONE);
            }
            int[] rows = {0, 1, 12, 123};
            for (int k = 1; k <= 4; k++) {
                due("tongue(" + k + ", 0) with " + signs + " told", x.tongue(k, 0), rows[k - 1]);
            }
            due("TUGS stay", x.count(5), 0);
            due("SIGNS stay", x.count(1), signs);
        }
    }

    private static void tongueOfSix() {
        of(15, "of all TUGS that by which MEAN, ANSWERED so, is greatest: it; MEAN");
        TugLake x = lake(SIX);
        int[][] clear = {{0, 20, 3}, {1, 10, 1}, {12, 31, 3}, {123, 21, 2}};
        // In fog 16 and 32 are the greatest of sounds 0 and 3, then 4 of 2, then 2 of 1.
        int[][] fog = {{0, 16, 3}, {1, 8, 1}, {12, 26, 3}, {123, 9, 1}};
        int[][] thunder = {{0, 20, 3}, {0, 20, 3}, {0, 20, 3}, {0, 20, 3}};
        int[][] both = {{0, 16, 3}, {0, 16, 3}, {0, 16, 3}, {0, 16, 3}};
        int[][][] all = {clear, fog, thunder, both};
        for (int weather = 0; weather < 4; weather++) {
            x.set(0, weather % 2 == 1);
            x.set(1, weather / 2 == 1);
            for (int k = 1; k <= 4; k++) {
                for (int what = 0; what < 3; what++) {
                    due("tongue(" + k + ", " + what + ") in " + weather, x.tongue(k, what), all[weather][k - 1][what]);
                }
            }
        }
    }

    private static void tongueLeast() {
        of(15, "of several the least as digits");
        due("nothing to catch", lake("pf0;ps1f0;ps2f0;ps3f0;bk4").tongue(4, 0), 0);
        due("nothing to tell apart", lake("p;ps1l1;ps2l2;ps3l3;bk4").tongue(4, 0), 0);
        due("one to tell apart, sounds 0 and 3", lake("p;ps3").tongue(2, 0), 1);
        due("one to tell apart, sounds 0 and 1", lake("p;ps1").tongue(2, 0), 100);
        due("one to tell apart, sounds 1 and 2", lake("ps1;ps2").tongue(2, 0), 10);
        due("the least there can be to tell apart", lake("pf1;ps3f1").tongue(2, 0), 1);
        due("99 of 100 are lost: one still tells", lake("p;ps3;bt99").tongue(2, 0), 1);
        due("the greater one is lost less as 0", lake("pf20;ps3;bt50").tongue(2, 0), 1);
        due("the lesser one is lost less as 0", lake("pf10;ps3f20;bt50").tongue(2, 0), 1000);
        TugLake rare = lake("p;ps1;ps2;ps3;bt99");
        due("one of four by sign 0, each other once in a hundred", rare.tongue(4, 0), 123);
        fraction("so", rare.tongue(4, 1), rare.tongue(4, 2), 1030, 400);
    }

    private static void senses() {
        of(16, "MEAN of the best TONGUE with the SIGNS told in FOG or not, in THUNDER or not. NONE: no LAKE, no such part");
        for (int part = -1; part <= 2; part++) {
            due("no lake", new TugLake().sense(false, true, part), NONE);
        }
        int[][] want = {{21, 2}, {9, 1}, {20, 3}, {16, 3}};
        TugLake x = lake(SIX);
        for (int told = 0; told < 4; told++) {
            x.set(0, told % 2 == 1);
            x.set(1, told / 2 == 1);
            for (int asked = 0; asked < 4; asked++) {
                boolean fog = asked % 2 == 1;
                boolean thunder = asked / 2 == 1;
                fraction("sense " + asked + " in " + told, x.sense(fog, thunder, 0), x.sense(fog, thunder, 1), want[asked][0], want[asked][1]);
            }
            due("fog stays", x.count(6), told % 2);
            due("thunder stays", x.count(7), told / 2);
        }
        int[][] bySigns = {{20, 3}, {10, 1}, {31, 3}, {21, 2}};
        for (int signs = 1; signs <= 4; signs++) {
            TugLake y = lake(SIX.substring(0, SIX.length() - 1) + signs);
            fraction("signs " + signs, y.sense(false, false, 0), y.sense(false, false, 1), bySigns[signs - 1][0], bySigns[signs - 1][1]);
        }
        fraction("nothing", lake("pf0;p w0").sense(false, false, 0), lake("pf0;p w0").sense(false, false, 1), 0, 1);
    }

    private static void settledEdges() {
        of(17, "how many (i NONE), the i-th (rising). NONE: no such one, no LAKE");
        due("no lake", new TugLake().settled(NONE), NONE);
        due("no lake", new TugLake().settled(0), NONE);
        int[] powers = {1, 16, 81, 256};
        for (int signs = 1; signs <= 4; signs++) {
            // No sound is worth hearing: all TUGS are settled.
            TugLake x = lake("pf0;ps1f0;bk" + signs);
            int many = powers[signs - 1];
            due("how many of " + signs, x.settled(NONE), many);
            int last = -1;
            for (int i = 0; i < many; i++) {
                int row = x.settled(i);
                yes("rising", row > last);
                last = row;
            }
            due("the last one", last, 1111 * (signs - 1));
            int[] bad = {many, many + 1, 1000, -2, -3, FAR, LOW};
            for (int i : bad) {
                due("settled(" + i + ") of " + signs, x.settled(i), NONE);
            }
        }
    }

    private static void settledStrictly() {
        of(17, "no other TUGS (THROWS as then) have a greater MEAN");
        // Sounds 1 and 2 of places worth as much; one sign for both catches one of them, the other sign goes to place 0.
        TugLake x = lake("ps1;ps2f10");
        due("equal places: as great is not greater", x.settled(NONE), 16);
        TugLake y = lake("ps1;ps2f11");
        // Same sign for both: place 1 is thrown to, the other sign's throw to place 0 would be worth 10 for sound 1.
        due("unequal places", y.settled(NONE), 8);
        due("the first", y.settled(0), 10);
        due("the last", y.settled(7), 1101);
        for (int one = 0; one < 4; one++) {
            for (int other = 0; other < 4; other++) {
                TugLake z = lake("ps" + one + ";ps" + other + "f11");
                due("sounds " + one + " and " + other, z.settled(NONE), one == other ? 16 : 8);
            }
        }
        // Sound 1 has two places: it leaves the sign that catches the lesser one for that which catches the greater one.
        TugLake two = lake("ps1l1f50;ps1f10;ps2l1f99");
        int[] rows = {10, 11, 100, 101, 1010, 1011, 1100, 1101};
        due("what the places of a sound are worth counts", two.settled(NONE), rows.length);
        for (int i = 0; i < rows.length; i++) {
            due("settled(" + i + ")", two.settled(i), rows[i]);
        }
        TugLake lost = lake("ps1f20;ps2;bt50");
        // Sound 1 with sign 0 is never lost; with sign 1 half of it comes as 0, where place 0 stands as good as place 1 does.
        due("by half lost", lost.settled(NONE), settledByHand(20, 10, 50));
        TugLake much = lake("ps1f20;ps2;bt49");
        due("by 49 lost", much.settled(NONE), settledByHand(20, 10, 49));
        of(17, "in THUNDER all TUGS tug by SOUND 0 alone");
        x.set(1, true);
        due("in thunder", x.settled(NONE), 16);
        y.set(1, true);
        // The sign of sound 0 catches place 1; the other sign's throw is to place 0, worth less.
        due("in thunder, unequal", y.settled(NONE), 16);
    }

    // Two signs, sounds 1 and 2 of one place each: all four ways to tug these, each as often as sounds 0 and 3 have signs.
    private static int settledByHand(int first, int second, int lost) {
        int[] fish = {first, second};
        int settled = 0;
        for (int way = 0; way < 4; way++) {
            int[] signs = {way / 2, way % 2};
            int[] throwsTo = {0, 0};
            for (int came = 0; came < 2; came++) {
                int[] value = {fish[0] * comes(signs[0], came, lost), fish[1] * comes(signs[1], came, lost)};
                throwsTo[came] = value[1] > value[0] ? 1 : 0;
            }
            boolean still = true;
            for (int sound = 0; sound < 2; sound++) {
                int own = gained(sound, signs[sound], throwsTo, lost);
                int other = gained(sound, 1 - signs[sound], throwsTo, lost);
                still &= other <= own;
            }
            settled += still ? 4 : 0;
        }
        return settled;
    }

    private static int comes(int sign, int came, int lost) {
        int whole = sign == 0 ? 0 : lost;
        return came == sign ? 100 - whole : came == 0 ? whole : 0;
    }

    private static int gained(int place, int sign, int[] throwsTo, int lost) {
        int often = 0;
        for (int came = 0; came < 2; came++) {
            often += throwsTo[came] == place ? comes(sign, came, lost) : 0;
        }
        return often;
    }

    private static void worstEdges() {
        of(18, "WORST: the least MEAN of these, ANSWERED. NONE: no LAKE, no such part");
        due("no lake", new TugLake().worst(0), NONE);
        due("no lake", new TugLake().worst(1), NONE);
        TugLake x = lake("ps1;ps2f10");
        fraction("one sign for both is settled, too", x.worst(0), x.worst(1), 5, 1);
        TugLake y = lake("ps1;ps2f11");
        fraction("only two signs are settled", y.worst(0), y.worst(1), 21, 2);
        TugLake one = lake("ps1;ps2f11;bk1");
        fraction("one sign", one.worst(0), one.worst(1), 11, 2);
        TugLake nothing = lake("pf0;pf0");
        fraction("nothing", nothing.worst(0), nothing.worst(1), 0, 1);
        y.throwTo(0, 0, 1);
        y.tugs(11);
        fraction("THROWS and TUGS as they are are not asked", y.worst(0), y.worst(1), 21, 2);
        due("THROWS stay", y.thrown(0, 0), 1);
        y.set(1, true);
        fraction("in thunder", y.worst(0), y.worst(1), 11, 2);
    }

    private static void wetBounds() {
        of(29, "LOST (0 .. 99). False: no LAKE, out of bounds, it is so");
        for (int lost = -1; lost <= 100; lost++) {
            no("no lake: wet(" + lost + ")", new TugLake().wet(lost));
        }
        TugLake x = lake(THREE);
        no("as told: it is so", x.wet(25));
        int[] bad = {-1, -2, 100, 101, FAR, LOW};
        for (int lost : bad) {
            no("wet(" + lost + ")", x.wet(lost));
            due("it stays", x.count(2), 25);
        }
        for (int lost = 0; lost <= 99; lost++) {
            yes("wet(" + lost + ")", x.wet(lost));
            due("count(2)", x.count(2), lost);
            no("wet(" + lost + ") again", x.wet(lost));
        }
        no("wet(100) at 99", x.wet(100));
        due("it stays", x.count(2), 99);
        no("none told is 0: it is so", lake("p;p").wet(0));
    }

    private static void loneBounds() {
        of(30, "who hears (0), who sees (1), a HALF FISH (2): above (part 0), below (1). NONE: no LAKE, no such ones");
        TugLake x = lake(SIX);
        int[] whos = {-1, 3, 4, FAR, LOW};
        int[] parts = {-1, 2, FAR, LOW};
        for (int who = 0; who < 3; who++) {
            due("no lake", new TugLake().lone(who, 0), NONE);
            due("no lake", new TugLake().alone(who, 0, 0), NONE);
            for (int part : parts) {
                due("lone(" + who + ", " + part + ")", x.lone(who, part), NONE);
            }
            for (int sound = -1; sound <= 4; sound++) {
                for (int look = -1; look <= 4; look++) {
                    boolean can = sound >= 0 && sound < 4 && look >= 0 && look < 4;
                    due("alone(" + who + ", " + sound + ", " + look + ") is told", x.alone(who, sound, look) == NONE ? 0 : 1, can ? 1 : 0);
                }
            }
            due("far", x.alone(who, FAR, 0), NONE);
            due("far", x.alone(who, 0, LOW), NONE);
        }
        for (int who : whos) {
            due("lone(" + who + ", 0)", x.lone(who, 0), NONE);
            due("alone(" + who + ", 0, 0)", x.alone(who, 0, 0), NONE);
        }
        fraction("nothing", lake("pf0;pf0").lone(0, 0), lake("pf0;pf0").lone(0, 1), 0, 1);
    }

    private static void loneOfSix() {
        of(30, "the best MEAN of one who hears alone, of one who sees alone; of a HALF FISH; FOG, THUNDER as they are");
        // By weather (1 fog, 2 thunder): who hears, who sees, who has both.
        int[][][] want = {{{9, 1}, {20, 3}, {21, 2}}, {{9, 1}, {16, 3}, {9, 1}}, {{16, 3}, {20, 3}, {20, 3}}, {{16, 3}, {16, 3}, {16, 3}}};
        TugLake x = lake(SIX);
        for (int weather = 0; weather < 4; weather++) {
            x.set(0, weather % 2 == 1);
            x.set(1, weather / 2 == 1);
            for (int who = 0; who < 3; who++) {
                fraction("lone " + who + " in " + weather, x.lone(who, 0), x.lone(who, 1), want[weather][who][0], want[weather][who][1]);
            }
        }
        x.wet(99);
        fraction("LOST is not asked", x.lone(2, 0), x.lone(2, 1), 16, 3);
        TugLake corner = lake("p;ps3l3f20");
        fraction("sound 3, who hears", corner.lone(0, 0), corner.lone(0, 1), 15, 1);
        fraction("look 3, who sees", corner.lone(1, 0), corner.lone(1, 1), 15, 1);
        fraction("both, a half fish", corner.lone(2, 0), corner.lone(2, 1), 15, 1);
    }

    private static void aloneLowest() {
        of(31, "the PLACE for a SOUND, a LOOK (those not asked for by its sense are left out of account; of several the lowest; "
            + "also where nothing is ever so)");
        TugLake x = lake(SIX);
        int[] hears = {4, 1, 2, 5};
        int[] sees = {3, 5, 0, 0};
        int[][] both = {{0, 4, 0, 0}, {1, 0, 0, 0}, {2, 0, 0, 0}, {3, 5, 0, 0}};
        for (int sound = 0; sound < 4; sound++) {
            for (int look = 0; look < 4; look++) {
                due("who hears " + sound, x.alone(0, sound, look), hears[sound]);
                due("who sees " + look, x.alone(1, sound, look), sees[look]);
                due("a half fish " + sound + " " + look, x.alone(2, sound, look), both[sound][look]);
            }
        }
        TugLake same = lake("pf0;pf5;pf5;pw5f1;pf4;pf5");
        for (int who = 0; who < 3; who++) {
            due("of several the lowest", same.alone(who, 0, 0), 1);
        }
        TugLake least = lake("pf0;pf1");
        for (int who = 0; who < 3; who++) {
            due("the least that is more than nothing", least.alone(who, 0, 0), 1);
        }
        due("in thunder sound 3 is never heard", thunder(x).alone(0, 3, 0), 0);
        due("in thunder sound 0 is all", x.alone(0, 0, 0), 5);
        due("in thunder a half fish", x.alone(2, 0, 0), 3);
        x.set(0, true);
        due("in fog look 1 is never seen", x.alone(1, 0, 1), 0);
        due("in fog look 0 is all", x.alone(1, 0, 0), 5);
    }

    private static TugLake thunder(TugLake x) {
        x.set(1, true);
        return x;
    }

    private static void knotBounds() {
        of(32, "KNOTS of n (1 .. 3) tugs. NONE: no LAKE, no such ones, a WORD of more tugs");
        for (int n = -1; n <= 4; n++) {
            due("no lake", new TugLake().knots(n, 0, 0), NONE);
        }
        TugLake x = lake(SIX);
        int[] ns = {-1, 0, 4, 5, FAR, LOW};
        for (int n : ns) {
            due("knots(" + n + ", 0, 0)", x.knots(n, 0, 0), NONE);
        }
        int[] parts = {-1, 2, FAR, LOW};
        for (int part : parts) {
            due("knots(1, 0, " + part + ")", x.knots(1, 0, part), NONE);
        }
        int[] tens = {1000, 100, 10, 1};
        for (int n = 1; n <= 3; n++) {
            for (int ten : tens) {
                for (int word = 0; word <= 9; word++) {
                    due("knots(" + n + ", " + ten * word + ", 1) is told", x.knots(n, ten * word, 1) == NONE ? 0 : 1, word < 1 << n ? 1 : 0);
                }
            }
            int highest = 1111 * ((1 << n) - 1);
            yes("all the highest", x.knots(n, highest, 0) != NONE);
            int[] bad = {-1, -highest, highest + 1111, 9999, 10000, 10000 + highest, FAR, LOW};
            for (int words : bad) {
                due("knots(" + n + ", " + words + ", 0)", x.knots(n, words, 0), NONE);
            }
        }
    }

    private static void knotWords() {
        of(32, "a row of WORDS for SOUNDS 0 .. 3 (as digits to the base 10), MEAN of such a row");
        TugLake x = lake(SIX);
        int[][] want = {{1, 0, 20, 3}, {1, 1111, 20, 3}, {1, 1, 10, 1}, {1, 1110, 10, 1}, {2, 123, 21, 2}, {2, 3210, 21, 2},
            {2, 12, 31, 3}, {3, 123, 21, 2}, {3, 7531, 21, 2}, {3, 7777, 20, 3}};
        for (int[] row : want) {
            fraction("knots " + row[0] + " " + row[1], x.knots(row[0], row[1], 0), x.knots(row[0], row[1], 1), row[2], row[3]);
        }
        x.set(0, true);
        fraction("in fog", x.knots(2, 123, 0), x.knots(2, 123, 1), 9, 1);
        x.set(1, true);
        fraction("in both", x.knots(2, 123, 0), x.knots(2, 123, 1), 16, 3);
        x.set(0, false);
        fraction("in thunder", x.knots(2, 123, 0), x.knots(2, 123, 1), 20, 3);
        fraction("SIGNS told do not count", lake("p;ps3;bk1").knots(1, 1, 0), lake("p;ps3;bk1").knots(1, 1, 1), 10, 1);
        fraction("nothing", lake("pf0;ps3f0").knots(3, 1, 0), lake("pf0;ps3f0").knots(3, 1, 1), 0, 1);
    }

    private static void knotsLost() {
        of(32, "a long tug LOST comes as a short one, each by itself: above a hundred to the n times all WEIGHTS");
        // Sound 3 alone has a word above 0: what of it stays is its own, what comes as 0 goes to the greater one.
        TugLake x = lake("pf40;ps3f20;bt10");
        fraction("one tug of one", x.knots(1, 1, 0), x.knots(1, 1, 1), 40 + 18, 2);
        fraction("one long of two", x.knots(2, 1, 0), x.knots(2, 1, 1), 29, 1);
        fraction("the other long of two", x.knots(2, 2, 0), x.knots(2, 2, 1), 29, 1);
        fraction("two long of two: both are lost once in a hundred", x.knots(2, 3, 0), x.knots(2, 3, 1), 4000 + 1980, 200);
        fraction("three long", x.knots(3, 7, 0), x.knots(3, 7, 1), 40000 + 19980, 2000);
        fraction("two long of three", x.knots(3, 5, 0), x.knots(3, 5, 1), 4000 + 1980, 200);
        x.wet(99);
        fraction("99 of 100 lost, three long", x.knots(3, 7, 0), x.knots(3, 7, 1), 40000000 + 20 * (1000000 - 970299), 2000000);
        x.wet(0);
        fraction("none lost", x.knots(3, 7, 0), x.knots(3, 7, 1), 30, 1);
        // Words 1 and 3: of a hundred times a hundred 3 comes as 1 where 900 are, as 2 as often, as 0 once in a hundred.
        TugLake y = lake("ps1f40;ps3f20;bt10");
        fraction("a word that comes as another one", y.knots(2, 103, 0), y.knots(2, 103, 1), 40 * 9000 + 20 * (8100 + 900) + 40 * 1000, 20000);
    }

    private static void bestKnotBounds() {
        of(33, "BEST KNOTS: the row (0), MEAN above (1), below (2). NONE: no LAKE, no such ones");
        for (int n = 1; n <= 3; n++) {
            due("no lake", new TugLake().bestKnots(n, 0), NONE);
        }
        TugLake x = lake(SIX);
        int[] ns = {-1, 0, 4, 5, FAR, LOW};
        for (int n : ns) {
            due("bestKnots(" + n + ", 0)", x.bestKnots(n, 0), NONE);
        }
        int[] whats = {-1, 3, 4, FAR, LOW};
        for (int what : whats) {
            due("bestKnots(1, " + what + ")", x.bestKnots(1, what), NONE);
            due("bestKnots(3, " + what + ")", x.bestKnots(3, what), NONE);
        }
        TugLake nothing = lake("pf0;ps1f0;ps2f0;ps3f0;bt50");
        for (int n = 1; n <= 3; n++) {
            due("nothing: the least row", nothing.bestKnots(n, 0), 0);
            fraction("nothing", nothing.bestKnots(n, 1), nothing.bestKnots(n, 2), 0, 1);
        }
    }

    private static void bestKnotsOfSix() {
        of(33, "the row with the greatest MEAN (of several the least as digits)");
        TugLake x = lake(SIX);
        int[][] want = {{1, 10, 1}, {123, 21, 2}, {123, 21, 2}};
        int[][] fog = {{1, 8, 1}, {123, 9, 1}, {123, 9, 1}};
        for (int n = 1; n <= 3; n++) {
            due("row of " + n, x.bestKnots(n, 0), want[n - 1][0]);
            fraction("mean of " + n, x.bestKnots(n, 1), x.bestKnots(n, 2), want[n - 1][1], want[n - 1][2]);
        }
        x.set(0, true);
        for (int n = 1; n <= 3; n++) {
            due("in fog, row of " + n, x.bestKnots(n, 0), fog[n - 1][0]);
            fraction("in fog, mean of " + n, x.bestKnots(n, 1), x.bestKnots(n, 2), fog[n - 1][1], fog[n - 1][2]);
        }
        TugLake y = lake("pf40;ps3f20;bt10");
        int[] rows = {1, 3, 7};
        for (int n = 1; n <= 3; n++) {
            due("lost by tenths: as many long ones as there are", y.bestKnots(n, 0), rows[n - 1]);
        }
        due("the greater one by long tugs, as one is short", lake("pf20;ps3f40;bt10").bestKnots(2, 0), 3000);
    }

    private static void weatherBounds() {
        of(34, "WEATHER (of 100 days each). NONE: no LAKE, out of bounds");
        due("no lake", new TugLake().weather(0, 0, 0), NONE);
        due("no lake", new TugLake().weather(50, 50, 1), NONE);
        TugLake x = answered(SIX, 123);
        int[] bad = {-1, -100, 101, 102, 200, FAR, LOW};
        for (int days : bad) {
            for (int part = 0; part < 2; part++) {
                due("weather(" + days + ", 0)", x.weather(days, 0, part), NONE);
                due("weather(0, " + days + ")", x.weather(0, days, part), NONE);
                due("weather(" + days + ", 100)", x.weather(days, 100, part), NONE);
            }
        }
        int[] parts = {-1, 2, FAR, LOW};
        for (int part : parts) {
            due("part " + part, x.weather(0, 0, part), NONE);
        }
        TugLake nothing = lake("pf0;pf0");
        fraction("nothing", nothing.weather(50, 50, 0), nothing.weather(50, 50, 1), 0, 1);
    }

    private static void weatherOfSix() {
        of(34, "FOG on so many of 100 days, THUNDER on so many, apart from one another, by TUGS and THROWS as they are");
        TugLake x = answered(SIX, 123);
        long[][] want = {{0, 0, 21, 2}, {100, 0, 5, 2}, {0, 100, 17, 6}, {100, 100, 1, 6}, {30, 20, 1033, 150},
            {1, 0, 63 * 99 + 15, 600}, {99, 0, 63 + 15 * 99, 600}, {0, 1, 63 * 99 + 17, 600}, {0, 99, 63 + 17 * 99, 600}};
        for (int told = 0; told < 4; told++) {
            x.set(0, told % 2 == 1);
            x.set(1, told / 2 == 1);
            for (long[] row : want) {
                int fog = (int) row[0];
                int thunder = (int) row[1];
                fraction("weather " + fog + " " + thunder, x.weather(fog, thunder, 0), x.weather(fog, thunder, 1), row[2], row[3]);
            }
        }
        TugLake odd = lakeWith("ps1f1;pw8;bt1", "y:f");
        odd.tugs(100);
        odd.throwTo(0, 0, 1);
        odd.throwTo(0, 1, 0);
        // 99 of 100 of 1 by itself, place 1 always: below nine million in all.
        fraction("all of it", odd.weather(0, 0, 0), odd.weather(0, 0, 1), 8099, 900);
        fraction("on one day of a hundred", odd.weather(0, 1, 0), odd.weather(0, 1, 1), 800000 + 9801, 90000);
    }

    private static void skills() {
        of(35, "by how much the MEAN of the best TONGUE without FOG and THUNDER is above that with (0 FOG, 1 THUNDER, 2 both). "
            + "HIDDEN: no LAKE, no such ones");
        for (int what = -1; what <= 3; what++) {
            due("no lake", new TugLake().skill(what, 0), HIDDEN);
            due("no lake", new TugLake().skill(what, 1), HIDDEN);
        }
        TugLake x = lake(SIX);
        int[][] want = {{3, 2}, {23, 6}, {31, 6}};
        for (int told = 0; told < 4; told++) {
            x.set(0, told % 2 == 1);
            x.set(1, told / 2 == 1);
            for (int what = 0; what < 3; what++) {
                fraction("skill " + what + " in " + told, x.skill(what, 0), x.skill(what, 1), want[what][0], want[what][1]);
            }
        }
        int[] bad = {-1, 3, 4, FAR, LOW};
        for (int what : bad) {
            due("skill(" + what + ", 0)", x.skill(what, 0), HIDDEN);
        }
        int[] parts = {-1, 2, FAR, LOW};
        for (int part : parts) {
            due("skill(0, " + part + ")", x.skill(0, part), HIDDEN);
        }
        TugLake none = lake("ps1;ps1");
        for (int what = 0; what < 3; what++) {
            fraction("none: 0 by 1", none.skill(what, 0), none.skill(what, 1), 0, 1);
        }
        TugLake one = lake("ps1;ps2;bk1");
        fraction("one sign: thunder takes nothing", one.skill(1, 0), one.skill(1, 1), 0, 1);
    }

    private static void casesOfSix() {
        of(36, "CASES: always (0), by chance (1), as bits. NONE: no LAKE, no such what");
        due("no lake", new TugLake().cases(0), NONE);
        due("no lake", new TugLake().cases(1), NONE);
        TugLake x = answered(SIX, 123);
        due("always", x.cases(0), 63);
        due("by chance", x.cases(1), 0);
        int[] losts = {1, 50, 99};
        for (int lost : losts) {
            x.wet(lost);
            due("sign 0 always, by " + lost, x.cases(0), 17);
            due("the others by chance, by " + lost, x.cases(1), 46);
        }
        int[] bad = {-1, 2, 3, FAR, LOW};
        for (int what : bad) {
            due("cases(" + what + ")", x.cases(what), NONE);
        }
        x.set(1, true);
        due("in thunder always", x.cases(0), 17);
        due("in thunder by chance", x.cases(1), 0);
        x.set(1, false);
        x.set(0, true);
        due("in fog always", x.cases(0), 1);
        due("in fog by chance", x.cases(1), 14);
    }

    private static void casesByChance() {
        of(36, "by chance (with LOST above 0 and a SIGN above 0 just one of both ways), or never");
        for (int ways = 0; ways < 4; ways++) {
            for (int sign = 0; sign < 2; sign++) {
                for (int lost = 0; lost < 2; lost++) {
                    TugLake x = lake("ps1;p;bt" + lost);
                    x.tugs(100 * sign);
                    x.throwTo(0, 0, ways % 2 == 1 ? 0 : 1);
                    x.throwTo(0, 1, ways / 2 == 1 ? 0 : 1);
                    boolean kept = sign == 0 ? ways % 2 == 1 : ways / 2 == 1;
                    boolean whenLost = sign == 0 || lost == 0 ? kept : ways % 2 == 1;
                    String what = "ways " + ways + " sign " + sign + " lost " + lost;
                    due(what + ": always", x.cases(0) & 1, kept && whenLost ? 1 : 0);
                    due(what + ": by chance", x.cases(1) & 1, kept != whenLost ? 1 : 0);
                }
            }
        }
    }

    private static void casesWeight() {
        of(36, "each PLACE with WEIGHT above 0");
        TugLake x = lake("pw0;pw1;p;p;p;pw0;bk1");
        for (int place = 0; place < 6; place++) {
            x.throwTo(0, 0, place);
            due("thrown to " + place, x.cases(0), place == 0 || place == 5 ? 0 : 1 << place);
        }
        due("worth nothing is a catch, too", lake("pf0;pw0").cases(0), 1);
    }

    private static void mixedEdges() {
        of(37, "that more than one PLACE with WEIGHT above 0 has: how many (i NONE), the i-th. NONE: no such one, no LAKE");
        due("no lake", new TugLake().mixed(NONE), NONE);
        due("no lake", new TugLake().mixed(0), NONE);
        due("one place of each", lake("p;ps1").mixed(NONE), 0);
        due("one place of each: no first", lake("p;ps1").mixed(0), NONE);
        due("two places", lake("p;p").mixed(NONE), 1);
        due("two places", lake("p;p").mixed(0), 0);
        due("two places, no weight on one", lake("p;pw0").mixed(NONE), 0);
        due("two places, the least weight", lake("pw1;pw1").mixed(NONE), 1);
        due("three, two of them without weight", lake("pw0;pw0;p").mixed(NONE), 0);
        due("three, one of them without weight", lake("p;pw0;p").mixed(NONE), 1);
        due("six of one", lake("ps3l3;ps3l3;ps3l3;ps3l3;ps3l3;ps3l3").mixed(NONE), 1);
        due("six of one", lake("ps3l3;ps3l3;ps3l3;ps3l3;ps3l3;ps3l3").mixed(0), 33);
        TugLake fewer = lake("p;ps1;ps1");
        due("three places", fewer.mixed(NONE), 1);
        tell(fewer, "p;ps1");
        due("another lake of two", fewer.text(0), 2);
        due("the third one is gone", fewer.mixed(NONE), 0);
        TugLake x = lake("ps3l2;ps0l3;ps2;ps3l2;ps2;ps0l3");
        due("three pairs", x.mixed(NONE), 3);
        int[] want = {3, 20, 32};
        for (int i = 0; i < 3; i++) {
            due("mixed(" + i + ")", x.mixed(i), want[i]);
        }
        int[] bad = {3, 4, -2, -3, FAR, LOW};
        for (int i : bad) {
            due("mixed(" + i + ")", x.mixed(i), NONE);
        }
    }

    private static void mixedOfSix() {
        of(37, "SOUNDS heard with LOOKS seen (10 times the SOUND and the LOOK)");
        TugLake x = lake(SIX);
        int[][] want = {{}, {0, 30}, {0, 1}, {0}};
        for (int weather = 0; weather < 4; weather++) {
            x.set(0, weather % 2 == 1);
            x.set(1, weather / 2 == 1);
            due("how many in " + weather, x.mixed(NONE), want[weather].length);
            for (int i = 0; i < want[weather].length; i++) {
                due("mixed(" + i + ") in " + weather, x.mixed(i), want[weather][i]);
            }
            due("no more in " + weather, x.mixed(want[weather].length), NONE);
        }
    }
}
