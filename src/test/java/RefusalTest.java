import java.util.ArrayList;
import java.util.List;
import java.util.NoSuchElementException;
import java.util.function.ToLongFunction;

/**
 * What is refused answers as told and changes nothing; what is asked changes nothing: behind each such call an object
 * shows what its twin shows that had no such call.
 */
public final class RefusalTest extends Bench {
    /** How an object is lived in ahead of the call. */
    private static final String[] STATES = {"new", "told without a lake", "bare lake", "lived in", "all places taken"};
    private static final int[] BEYOND = {-2, 1000, FAR, LOW};

    /** A call, and what it answers if it is refused. */
    private static final class Call {
        final int of;
        final String words;
        final ToLongFunction<TugLake> call;
        final long want;

        Call(int of, String words, ToLongFunction<TugLake> call, long want) {
            this.of = of;
            this.words = words;
            this.call = call;
            this.want = want;
        }
    }

    private static List<Call> calls = new ArrayList<>();

    public static void main(String[] args) {
        for (int state = 0; state < STATES.length; state++) {
            List<String> twin = shown(livedIn(state));
            for (Call call : refusedIn(state)) {
                of(call.of, "What is refused answers as told and changes nothing: " + STATES[state]);
                TugLake x = livedIn(state);
                due(call.words, call.call.applyAsLong(x), call.want);
                same(call.words, shown(x), twin);
            }
            for (Call call : askedIn(state)) {
                of(call.of, "what is asked changes nothing: " + STATES[state]);
                TugLake x = livedIn(state);
                long answer = call.call.applyAsLong(x);
                due(call.words + " asked again", call.call.applyAsLong(x), answer);
                same(call.words, shown(x), twin);
            }
        }
        close();
    }

    private static TugLake livedIn(int state) {
        TugLake x = new TugLake();
        if (state == 1) {
            x.seed(8);
            tellWorths(x, 2);
            x.worth(1);
            tell(x, "p;p;q");
        } else if (state == 2) {
            tell(x, THREE);
            x.text(0);
        } else if (state == 3) {
            tellWorths(x, 2);
            x.worth(0);
            tell(x, THREE);
            x.text(0);
            live(x, 2, 2, 12);
            tell(x, "p;p;pw");
        } else if (state == 4) {
            tellWorths(x, 4);
            tell(x, SIX + "t30");
            x.text(0);
            live(x, 4, 20, 40);
            tell(x, filled("y:1;y:[f]=2?p", 160));
        }
        return x;
    }

    private static void tellWorths(TugLake x, int many) {
        String[] worths = {"y:f+1", "y:p=0?f;y:20-f", "y:w*9+s", "y:!(l=1)?7;y:70"};
        for (int worth = 0; worth < many; worth++) {
            tell(x, worths[worth]);
            x.text(1);
        }
    }

    // So many shelves, looks and days; LEARNING, an image half way, fog and thunder as the state has room for.
    private static void live(TugLake x, int shelves, int seen, int days) {
        x.seed(-77);
        x.tugs(120);
        x.answer();
        for (int shelf = 0; shelf < shelves; shelf++) {
            x.shelve(false, shelf);
            x.shelve(true, shelf);
            x.throwTo(shelf % 2, shelf % 3, 1);
            x.tugs(12 * shelf + 100);
        }
        for (int i = 0; i < seen; i++) {
            x.see(0, x.thrown(0, i % 2));
        }
        x.set(2, true);
        x.set(3, true);
        for (int day = 0; day < days; day++) {
            if (day == days / 2) {
                x.image();
            }
            x.day();
        }
        x.set(days % 3 == 0 ? 0 : 1, true);
        x.wet(60);
    }

    private static void add(int of, String words, ToLongFunction<TugLake> call, long want) {
        calls.add(new Call(of, words, call, want));
    }

    private static long bit(boolean is) {
        return is ? 1 : 0;
    }

    private static long placeOf(TugLake x, int place, int what) {
        try {
            return x.place(place, what);
        } catch (NoSuchElementException e) {
            return LOW;
        }
    }

    private static List<Call> refusedIn(int state) {
        calls = new ArrayList<>();
        boolean lake = state >= 2;
        refusedEverywhere();
        if (lake) {
            int places = state == 4 ? 6 : 3;
            int signs = state == 4 ? 4 : 3;
            refusedByLake(places, signs);
            refusedShelves();
            refusedMeans();
        } else {
            refusedWithoutLake();
            refusedAllWithoutLake();
        }
        if (state == 4) {
            refusedFull();
        } else {
            refusedNotFull(state);
        }
        return calls;
    }

    private static void refusedEverywhere() {
        for (int n : BEYOND) {
            add(3, "end(" + n + ")", x -> bit(x.end(n)), 0);
            add(4, "fault(" + n + ")", x -> x.fault(n), -2);
            add(5, "text(" + n + ")", x -> x.text(n), NONE);
            add(6, "place(" + n + ", 0)", x -> placeOf(x, n, 0), LOW);
            add(6, "place(0, " + n + ")", x -> placeOf(x, 0, n), LOW);
            add(7, "worth(" + n + ")", x -> bit(x.worth(n)), 0);
            add(8, "set(" + n + ", true)", x -> bit(x.set(n, true)), 0);
            add(19, "code(" + n + ", 0, 0)", x -> x.code(n, 0, 0), NONE);
            add(19, "code(4, " + n + ", 0)", x -> x.code(4, n, 0), NONE);
            add(19, "code(4, 0, " + n + ")", x -> x.code(4, 0, n), NONE);
            add(41, "read(" + n + ", 0, 0)", x -> x.read(n, 0, 0), NONE);
            add(41, "read(4, 0, " + n + ")", x -> x.read(4, 0, n), NONE);
            add(42, "spread(" + n + ", 0)", x -> x.spread(n, 0), NONE);
            add(49, "count(" + n + ")", x -> x.count(n), HIDDEN);
        }
        add(3, "end(-1)", x -> bit(x.end(-1)), 0);
        add(3, "end(161)", x -> bit(x.end(161)), 0);
        add(4, "fault(-1)", x -> x.fault(-1), -2);
        add(4, "fault(2)", x -> x.fault(2), -2);
        add(5, "text(-1)", x -> x.text(-1), NONE);
        add(5, "text(2)", x -> x.text(2), NONE);
        add(5, "text(0) with a fault", x -> x.text(0), NONE);
        add(19, "code(0, 0, NONE)", x -> x.code(0, 0, NONE), NONE);
        add(19, "code(17, 0, NONE)", x -> x.code(17, 0, NONE), NONE);
        add(19, "code(1, 4, NONE)", x -> x.code(1, 4, NONE), NONE);
        add(41, "read(1, 0, 2)", x -> x.read(1, 0, 2), NONE);
        add(42, "spread(1, 0)", x -> x.spread(1, 0), NONE);
        add(49, "count(14)", x -> x.count(14), HIDDEN);
    }

    private static void refusedByLake(int places, int signs) {
        int[] looks = {-1, 4, FAR, LOW};
        for (int look : looks) {
            add(10, "throwTo(" + look + ", 0, 1)", x -> bit(x.throwTo(look, 0, 1)), 0);
            add(11, "thrown(" + look + ", 0)", x -> x.thrown(look, 0), NONE);
            add(13, "answerTo(" + look + ", 0)", x -> x.answerTo(look, 0), NONE);
        }
        int[] bad = {-1, signs, FAR, LOW};
        for (int sign : bad) {
            add(9, "tugs of a sign " + sign, x -> bit(x.tugs(sign)), 0);
            add(10, "throwTo(0, " + sign + ", 1)", x -> bit(x.throwTo(0, sign, 1)), 0);
            add(11, "thrown(0, " + sign + ")", x -> x.thrown(0, sign), NONE);
            add(13, "answerTo(0, " + sign + ")", x -> x.answerTo(0, sign), NONE);
        }
        int[] beyond = {-1, places, FAR, LOW};
        for (int place : beyond) {
            add(6, "place(" + place + ", 0)", x -> placeOf(x, place, 0), LOW);
            add(10, "throwTo(0, 0, " + place + ")", x -> bit(x.throwTo(0, 0, place)), 0);
            add(23, "see(" + place + ", 0)", x -> x.see(place, 0), NONE);
            add(23, "see(0, " + place + ")", x -> x.see(0, place), NONE);
            add(43, "hoard(" + place + ", 0)", x -> x.hoard(place, 0), NONE);
        }
        int[] rows = {1000 * signs, 10 * signs, 1111 * signs, 9999, 10000};
        for (int row : rows) {
            add(9, "tugs(" + row + ")", x -> bit(x.tugs(row)), 0);
        }
        add(6, "place(0, 5)", x -> placeOf(x, 0, 5), LOW);
        add(6, "place(0, -1)", x -> placeOf(x, 0, -1), LOW);
        int[] losts = {-1, 100, FAR, LOW};
        for (int lost : losts) {
            add(29, "wet(" + lost + ")", x -> bit(x.wet(lost)), 0);
        }
        for (int what = -1; what <= 4; what++) {
            int flag = what;
            add(8, "set(" + what + "), as it is so", x -> bit(x.set(flag, isSo(x, flag))), 0);
        }
        add(29, "wet, as it is so", x -> bit(x.wet(x.count(2))), 0);
        add(27, "was of the day behind the last", x -> x.was(x.count(10), 0), NONE);
        add(27, "was(-1, 0)", x -> x.was(-1, 0), NONE);
        add(27, "was(0, 3)", x -> x.was(0, 3), NONE);
        add(43, "hoard(0, 2)", x -> x.hoard(0, 2), NONE);
        add(44, "said(4, 0)", x -> x.said(4, 0), NONE);
        add(44, "said(0, 4)", x -> x.said(0, 4), NONE);
        add(44, "said(-1, 0)", x -> x.said(-1, 0), NONE);
    }

    private static boolean isSo(TugLake x, int what) {
        int[] counts = {6, 7, 8, 13};
        return what >= 0 && what < 4 && x.count(counts[what]) == 1;
    }

    private static void refusedShelves() {
        int[] bad = {-1, 4, FAR, LOW};
        for (int shelf : bad) {
            add(20, "shelve(false, " + shelf + ")", x -> bit(x.shelve(false, shelf)), 0);
            add(20, "shelve(true, " + shelf + ")", x -> bit(x.shelve(true, shelf)), 0);
            add(21, "fit(" + shelf + ", 0, 0)", x -> x.fit(shelf, 0, 0), NONE);
            add(21, "fit(0, " + shelf + ", 0)", x -> x.fit(0, shelf, 0), NONE);
            add(22, "pair(" + shelf + ")", x -> x.pair(shelf), NONE);
            add(38, "crossed(" + shelf + ", 0, 0)", x -> x.crossed(shelf, 0, 0), NONE);
            add(39, "rests(" + shelf + ", 0, NONE)", x -> x.rests(shelf, 0, NONE), NONE);
            add(39, "rests(0, " + shelf + ", NONE)", x -> x.rests(0, shelf, NONE), NONE);
        }
        int[] rows = {-1, 10000, 99, 4999, 9994, FAR, LOW};
        for (int row : rows) {
            add(40, "leavers(" + row + ", NONE)", x -> x.leavers(row, NONE), NONE);
        }
        add(40, "leavers(9999, 16)", x -> x.leavers(9999, 16), NONE);
        add(40, "leavers(9999, -2)", x -> x.leavers(9999, -2), NONE);
        add(39, "rests(0, 0, 16)", x -> x.rests(0, 0, 16), NONE);
    }

    private static void refusedMeans() {
        int[] parts = {-1, 2, FAR, LOW};
        for (int part : parts) {
            add(14, "mean(" + part + ")", x -> x.mean(part), NONE);
            add(16, "sense part " + part, x -> x.sense(true, true, part), NONE);
            add(18, "worst(" + part + ")", x -> x.worst(part), NONE);
            add(21, "fit(0, 0, " + part + ")", x -> x.fit(0, 0, part), NONE);
            add(30, "lone(0, " + part + ")", x -> x.lone(0, part), NONE);
            add(32, "knots(1, 0, " + part + ")", x -> x.knots(1, 0, part), NONE);
            add(34, "weather(1, 1, " + part + ")", x -> x.weather(1, 1, part), NONE);
            add(35, "skill(0, " + part + ")", x -> x.skill(0, part), HIDDEN);
            add(36, "cases(" + part + ")", x -> x.cases(part), NONE);
            add(38, "crossed(0, 0, " + part + ")", x -> x.crossed(0, 0, part), NONE);
        }
        int[] ks = {-1, 0, 5, FAR, LOW};
        for (int k : ks) {
            add(15, "tongue(" + k + ", 0)", x -> x.tongue(k, 0), NONE);
        }
        int[] ns = {-1, 0, 4, FAR, LOW};
        for (int n : ns) {
            add(32, "knots(" + n + ", 0, 0)", x -> x.knots(n, 0, 0), NONE);
            add(33, "bestKnots(" + n + ", 0)", x -> x.bestKnots(n, 0), NONE);
        }
        int[] whats = {-1, 3, FAR, LOW};
        for (int what : whats) {
            add(15, "tongue(2, " + what + ")", x -> x.tongue(2, what), NONE);
            add(30, "lone(" + what + ", 0)", x -> x.lone(what, 0), NONE);
            add(31, "alone(" + what + ", 0, 0)", x -> x.alone(what, 0, 0), NONE);
            add(33, "bestKnots(2, " + what + ")", x -> x.bestKnots(2, what), NONE);
            add(35, "skill(" + what + ", 0)", x -> x.skill(what, 0), HIDDEN);
        }
        int[] weathers = {-1, 101, FAR, LOW};
        for (int days : weathers) {
            add(34, "weather(" + days + ", 0, 0)", x -> x.weather(days, 0, 0), NONE);
            add(34, "weather(0, " + days + ", 0)", x -> x.weather(0, days, 0), NONE);
        }
        add(17, "settled(256)", x -> x.settled(256), NONE);
        add(17, "settled(-2)", x -> x.settled(-2), NONE);
        add(24, "meant(256)", x -> x.meant(256), NONE);
        add(24, "meant(-2)", x -> x.meant(-2), NONE);
        add(31, "alone(0, 4, 0)", x -> x.alone(0, 4, 0), NONE);
        add(31, "alone(0, 0, 4)", x -> x.alone(0, 0, 4), NONE);
        add(32, "knots(2, 4, 0)", x -> x.knots(2, 4, 0), NONE);
        add(32, "knots(3, 10000, 0)", x -> x.knots(3, 10000, 0), NONE);
        add(37, "mixed(16)", x -> x.mixed(16), NONE);
        add(37, "mixed(-2)", x -> x.mixed(-2), NONE);
    }

    private static void refusedWithoutLake() {
        for (int what = 0; what < 4; what++) {
            int flag = what;
            add(8, "set(" + what + ", true)", x -> bit(x.set(flag, true)), 0);
            add(8, "set(" + what + ", false)", x -> bit(x.set(flag, false)), 0);
        }
        add(6, "place(0, 0)", x -> placeOf(x, 0, 0), LOW);
        add(9, "tugs(0)", x -> bit(x.tugs(0)), 0);
        add(10, "throwTo(0, 0, 0)", x -> bit(x.throwTo(0, 0, 0)), 0);
        add(12, "answer()", x -> bit(x.answer()), 0);
        add(20, "shelve(false, 0)", x -> bit(x.shelve(false, 0)), 0);
        add(20, "shelve(true, 0)", x -> bit(x.shelve(true, 0)), 0);
        add(23, "see(0, 0)", x -> x.see(0, 0), NONE);
        add(26, "day()", x -> x.day(), NONE);
        add(28, "undo()", x -> x.undo(), NONE);
        add(29, "wet(0)", x -> bit(x.wet(0)), 0);
        add(29, "wet(5)", x -> bit(x.wet(5)), 0);
        add(47, "image()", x -> x.image(), NONE);
        add(48, "back()", x -> x.back(), NONE);
    }

    private static void refusedAllWithoutLake() {
        add(11, "thrown(0, 0)", x -> x.thrown(0, 0), NONE);
        add(13, "answerTo(0, 0)", x -> x.answerTo(0, 0), NONE);
        add(14, "mean(0)", x -> x.mean(0), NONE);
        add(15, "tongue(1, 0)", x -> x.tongue(1, 0), NONE);
        add(16, "sense", x -> x.sense(false, false, 0), NONE);
        add(17, "settled(NONE)", x -> x.settled(NONE), NONE);
        add(18, "worst(0)", x -> x.worst(0), NONE);
        add(21, "fit(0, 0, 0)", x -> x.fit(0, 0, 0), NONE);
        add(22, "pair(0)", x -> x.pair(0), NONE);
        add(24, "meant(NONE)", x -> x.meant(NONE), NONE);
        add(27, "was(0, 0)", x -> x.was(0, 0), NONE);
        add(30, "lone(0, 0)", x -> x.lone(0, 0), NONE);
        add(31, "alone(0, 0, 0)", x -> x.alone(0, 0, 0), NONE);
        add(32, "knots(1, 0, 0)", x -> x.knots(1, 0, 0), NONE);
        add(33, "bestKnots(1, 0)", x -> x.bestKnots(1, 0), NONE);
        add(34, "weather(0, 0, 0)", x -> x.weather(0, 0, 0), NONE);
        add(35, "skill(0, 0)", x -> x.skill(0, 0), HIDDEN);
        add(36, "cases(0)", x -> x.cases(0), NONE);
        add(37, "mixed(NONE)", x -> x.mixed(NONE), NONE);
        add(38, "crossed(0, 0, 0)", x -> x.crossed(0, 0, 0), NONE);
        add(39, "rests(0, 0, NONE)", x -> x.rests(0, 0, NONE), NONE);
        add(40, "leavers(9999, NONE)", x -> x.leavers(9999, NONE), NONE);
        add(43, "hoard(0, 0)", x -> x.hoard(0, 0), NONE);
        add(44, "said(0, 0)", x -> x.said(0, 0), NONE);
        add(45, "run()", x -> x.run(), NONE);
        add(46, "copy()", x -> x.copy(), NONE);
    }

    private static void refusedFull() {
        for (int which = 0; which < 5; which++) {
            for (int shift = 0; shift < 32; shift += 8) {
                int at = which;
                int number = 'p' << shift;
                add(2, "feed of one more", x -> x.feed(at == 0 ? number : 0, at == 1 ? number : 0, at == 2 ? number : 0,
                    at == 3 ? number : 0, at == 4 ? number : 0), NONE);
            }
        }
        add(2, "feed of twenty more", x -> x.feed(-1, -1, -1, -1, -1), NONE);
        add(5, "text(1), there are four WORTHS", x -> x.text(1), NONE);
        add(7, "worth(4)", x -> bit(x.worth(4)), 0);
        add(23, "see(0, 0), there are 20", x -> x.see(0, 0), NONE);
        add(26, "day(), there are 40", x -> x.day(), NONE);
    }

    private static void refusedNotFull(int state) {
        int[] bytes = {0, 5, 0, 6, 160};
        int[] worths = {0, 2, 0, 2, 4};
        int there = bytes[state];
        add(3, "end(" + (there + 1) + ")", x -> bit(x.end(there + 1)), 0);
        add(5, "text(1) with a fault", x -> x.text(1), NONE);
        add(7, "worth(" + worths[state] + ")", x -> bit(x.worth(worths[state])), 0);
        if (state == 2) {
            add(28, "undo(), no days", x -> x.undo(), NONE);
            add(48, "back(), no image", x -> x.back(), NONE);
            add(21, "fit(0, 0, 0), empty", x -> x.fit(0, 0, 0), NONE);
            add(22, "pair(0), empty", x -> x.pair(0), NONE);
            add(38, "crossed(0, 0, 0), empty", x -> x.crossed(0, 0, 0), NONE);
            add(39, "rests(0, 0, NONE), empty", x -> x.rests(0, 0, NONE), NONE);
            add(40, "leavers(999, NONE), empty", x -> x.leavers(999, NONE), NONE);
        }
    }

    private static List<Call> askedIn(int state) {
        calls = new ArrayList<>();
        add(2, "feed of nothing", x -> x.feed(0, 0, 0, 0, 0), 0);
        add(3, "end of all", x -> bit(x.end(x.count(4))), 0);
        add(4, "fault(0)", x -> x.fault(0), 0);
        add(4, "fault(1)", x -> x.fault(1), 0);
        add(6, "place(1, 4)", x -> placeOf(x, 1, 4), 0);
        add(7, "worth, as it is so", x -> bit(x.worth(x.count(12))), 0);
        add(9, "tugs, as they are", x -> bit(x.tugs(x.count(5))), 0);
        add(10, "throwTo, as it is", x -> bit(x.throwTo(0, 0, x.thrown(0, 0))), 0);
        add(11, "thrown(1, 1)", x -> x.thrown(1, 1), 0);
        add(13, "answerTo(1, 1)", x -> x.answerTo(1, 1), 0);
        add(14, "mean(0)", x -> x.mean(0), 0);
        for (int k = 1; k <= 4; k++) {
            int signs = k;
            add(15, "tongue(" + k + ", 0)", x -> x.tongue(signs, 0), 0);
        }
        add(16, "sense", x -> x.sense(true, true, 0), 0);
        add(17, "settled(NONE)", x -> x.settled(NONE), 0);
        add(18, "worst(0)", x -> x.worst(0), 0);
        add(19, "code(16, 3, 15)", x -> x.code(16, 3, 15), 0);
        add(21, "fit(1, 1, 1)", x -> x.fit(1, 1, 1), 0);
        add(22, "pair(1)", x -> x.pair(1), 0);
        add(24, "meant(0)", x -> x.meant(0), 0);
        add(27, "was(0, 0)", x -> x.was(0, 0), 0);
        askedLater();
        return calls;
    }

    private static void askedLater() {
        add(30, "lone(2, 0)", x -> x.lone(2, 0), 0);
        add(31, "alone(1, 1, 1)", x -> x.alone(1, 1, 1), 0);
        add(32, "knots(3, 7654, 0)", x -> x.knots(3, 7654, 0), 0);
        add(33, "bestKnots(2, 0)", x -> x.bestKnots(2, 0), 0);
        add(34, "weather(30, 20, 0)", x -> x.weather(30, 20, 0), 0);
        add(35, "skill(2, 0)", x -> x.skill(2, 0), 0);
        add(36, "cases(1)", x -> x.cases(1), 0);
        add(37, "mixed(0)", x -> x.mixed(0), 0);
        add(38, "crossed(0, 11, 0)", x -> x.crossed(0, 11, 0), 0);
        add(39, "rests(0, 1, NONE)", x -> x.rests(0, 1, NONE), 0);
        add(40, "leavers(9999, 0)", x -> x.leavers(9999, 0), 0);
        add(41, "read(16, 3, 9)", x -> x.read(16, 3, 9), 0);
        add(42, "spread(16, 3)", x -> x.spread(16, 3), 0);
        add(43, "hoard(1, 0)", x -> x.hoard(1, 0), 0);
        add(44, "said(1, 1)", x -> x.said(1, 1), 0);
        add(45, "run()", x -> x.run(), 0);
        add(46, "copy()", x -> x.copy(), 0);
        for (int what = 0; what < 14; what++) {
            int which = what;
            add(49, "count(" + what + ")", x -> x.count(which), 0);
        }
    }
}
