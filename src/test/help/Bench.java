import java.util.ArrayList;
import java.util.List;
import java.util.NoSuchElementException;

/** What the tests share: checks that are counted, lakes told as texts, and all that an object shows of itself. */
abstract class Bench {
    static final int NONE = TugLake.NONE;
    static final int HIDDEN = TugLake.HIDDEN;
    static final int FAR = Integer.MAX_VALUE;
    static final int LOW = Integer.MIN_VALUE;

    /** Place 0: weight 2, sound 1, look 0, fish 20; 1: 1, 2, 1, 30; 2: 3, 1, 1, 10; three signs, 25 of 100 lost. */
    static final String THREE = "pw2s1f20;pw1s2l1f30;pw3s1l1f10;bk3t25";

    /**
     * All six places, weight 1 each, with fish that tell by their sum which are caught: sounds 0 1 2 3 0 3,
     * looks 0 0 0 0 1 1; four signs.
     */
    static final String SIX = "pf1;ps1f2;ps2f4;ps3f8;pl1f16;ps3l1f32;bk4";

    static int promise = 0;
    static String sentence = "";
    private static int checks = 0;
    private static int wrong = 0;

    /** The promise, and the sentence of the document, that the checks from here on are of. */
    static void of(int which, String words) {
        promise = which;
        sentence = words;
    }

    static void due(String what, long got, long want) {
        checks++;
        if (got != want) {
            fault(what + " answered " + got + ", due is " + want);
        }
    }

    static void yes(String what, boolean got) {
        due(what, got ? 1 : 0, 1);
    }

    static void no(String what, boolean got) {
        due(what, got ? 1 : 0, 0);
    }

    /** A fraction is due as told here, made plain. */
    static void fraction(String what, long above, long below, long wantAbove, long wantBelow) {
        long common = common(wantAbove, wantBelow);
        due(what + ", above", above, wantAbove / common);
        due(what + ", below", below, wantBelow / common);
    }

    private static long common(long one, long other) {
        return other == 0 ? one : common(other, one % other);
    }

    static void same(String what, List<String> got, List<String> want) {
        checks++;
        for (int i = 0; i < Math.max(got.size(), want.size()); i++) {
            String one = i < got.size() ? got.get(i) : "nothing";
            String other = i < want.size() ? want.get(i) : "nothing";
            if (!one.equals(other)) {
                fault(what + ": then " + one + ", due is " + other);
                return;
            }
        }
    }

    private static void fault(String what) {
        wrong++;
        if (wrong <= 40) {
            System.out.println("promise " + promise + (sentence.isEmpty() ? "" : " [" + sentence + "]") + ": " + what);
        }
    }

    static void close() {
        System.out.println(checks + " checks, " + wrong + " wrong");
        if (wrong != 0) {
            System.exit(1);
        }
    }

    static int[] chunk(String text, int from) {
        int[] five = new int[5];
        for (int i = 0; i < 20 && from + i < text.length(); i++) {
            five[i / 4] |= text.charAt(from + i) << (24 - 8 * (i % 4));
        }
        return five;
    }

    static void tell(TugLake x, String text) {
        for (int from = 0; from < text.length(); from += 20) {
            int[] five = chunk(text, from);
            x.feed(five[0], five[1], five[2], five[3], five[4]);
        }
    }

    static TugLake lake(String text) {
        TugLake x = new TugLake();
        tell(x, text);
        x.text(0);
        return x;
    }

    static TugLake lakeWith(String text, String worth) {
        TugLake x = lake(text);
        tell(x, worth);
        x.worth(x.text(1));
        return x;
    }

    static int faultOf(String text, int sort) {
        TugLake x = new TugLake();
        tell(x, text);
        return x.fault(sort);
    }

    static boolean throwsNone(TugLake x, int place, int what) {
        try {
            x.place(place, what);
            return false;
        } catch (NoSuchElementException e) {
            return true;
        }
    }

    /** A text of so many bytes: blanks behind it. */
    static String filled(String text, int bytes) {
        return text + " ".repeat(bytes - text.length());
    }

    /**
     * All that an object shows: what it holds, then what comes of its draws, its days undone, its image and its
     * tape. Two objects with the same past show the same; the object is used up by it (at most 380 calls).
     */
    static List<String> shown(TugLake x) {
        List<String> all = new ArrayList<>();
        showCounts(all, x);
        all.add("fault(0) " + x.fault(0));
        all.add("fault(1) " + x.fault(1));
        showPlaces(all, x);
        showThrows(all, x);
        showShelves(all, x);
        all.add("meant(NONE) " + x.meant(NONE));
        all.add("meant(0) " + x.meant(0));
        showDays(all, x, 3);
        showWorths(all, x);
        showDraws(all, x);
        all.add("back() " + x.back());
        showCounts(all, x);
        showThrows(all, x);
        showDays(all, x, 1);
        showDraws(all, x);
        showTape(all, x);
        return all;
    }

    /** All that is reckoned from what an object holds (at most 87 calls). */
    static List<String> reckoned(TugLake x) {
        List<String> all = new ArrayList<>();
        for (int part = 0; part < 2; part++) {
            all.add("mean " + x.mean(part));
            all.add("worst " + x.worst(part));
            all.add("weather " + x.weather(30, 20, part));
            all.add("cases " + x.cases(part));
            for (int weather = 0; weather < 4; weather++) {
                all.add("sense " + weather + " " + x.sense(weather % 2 == 1, weather / 2 == 1, part));
            }
            for (int which = 0; which < 3; which++) {
                all.add("lone " + which + " " + x.lone(which, part));
                all.add("skill " + which + " " + x.skill(which, part));
            }
        }
        for (int what = 0; what < 3; what++) {
            for (int k = 1; k <= 4; k++) {
                all.add("tongue " + k + " " + x.tongue(k, what));
            }
            all.add("bestKnots " + x.bestKnots(2, what));
        }
        for (int sound = 0; sound < 4; sound++) {
            for (int look = 0; look < 4; look++) {
                all.add("alone " + sound + look + " " + x.alone(sound % 3, sound, look));
                all.add("answerTo " + sound + look + " " + x.answerTo(look, sound));
            }
            all.add("said " + sound + " " + x.said(sound, 0));
        }
        all.add("settled " + x.settled(NONE) + " " + x.settled(0));
        all.add("meant " + x.meant(NONE) + " " + x.meant(0));
        all.add("mixed " + x.mixed(NONE) + " " + x.mixed(0));
        all.add("copy " + x.copy() + ", run " + x.run());
        return all;
    }

    private static void showCounts(List<String> all, TugLake x) {
        for (int what = 0; what < 14; what++) {
            all.add("count(" + what + ") " + x.count(what));
        }
    }

    private static void showPlaces(List<String> all, TugLake x) {
        int places = x.count(0);
        for (int place = 0; place < places; place++) {
            for (int what = 0; what < 5; what++) {
                all.add("place(" + place + ", " + what + ") " + x.place(place, what));
            }
        }
    }

    private static void showThrows(List<String> all, TugLake x) {
        int signs = x.count(1);
        for (int look = 0; look < 4; look++) {
            for (int sign = 0; sign < signs; sign++) {
                all.add("thrown(" + look + ", " + sign + ") " + x.thrown(look, sign));
            }
        }
    }

    private static void showShelves(List<String> all, TugLake x) {
        for (int one = 0; one < 4; one++) {
            for (int other = 0; other < 4; other++) {
                all.add("fit(" + one + ", " + other + ", 0) " + x.fit(one, other, 0));
            }
            all.add("pair(" + one + ") " + x.pair(one));
            all.add("rests(" + one + ", " + one + ", NONE) " + x.rests(one, one, NONE));
        }
    }

    private static void showDays(List<String> all, TugLake x, int whats) {
        int days = x.count(10);
        for (int day = 0; day < days; day++) {
            for (int what = 0; what < whats; what++) {
                all.add("was(" + day + ", " + what + ") " + x.was(day, what));
            }
        }
    }

    private static void showWorths(List<String> all, TugLake x) {
        int worths = x.count(3);
        int holding = x.count(12);
        for (int worth = 0; worth < worths; worth++) {
            x.worth(worth);
            for (int place = 0; place < x.count(0) && place < 2; place++) {
                all.add("worth " + worth + " of " + place + ": " + x.place(place, 4));
            }
        }
        x.worth(holding);
    }

    private static void showDraws(List<String> all, TugLake x) {
        for (int i = 0; i < 2; i++) {
            all.add("undo() " + x.undo());
            all.add("tugs " + x.count(5));
            all.add("thrown(0, 0) " + x.thrown(0, 0));
            all.add("thrown(1, 0) " + x.thrown(1, 0));
        }
        for (int i = 0; i < 2; i++) {
            all.add("day() " + x.day());
            all.add("where " + x.was(x.count(10) - 1, 0));
            all.add("sign " + x.was(x.count(10) - 1, 1));
        }
    }

    private static void showTape(List<String> all, TugLake x) {
        all.add("text(1) " + x.text(1));
        all.add("text(0) " + x.text(0));
        showPlaces(all, x);
    }
}
