import java.util.Arrays;
import java.util.NoSuchElementException;

/** A lake on which a blind one rows and tugs a line, and a deaf one throws the net. */
public final class TugLake {
    public static final int NONE = -1;
    public static final int HIDDEN = -1000000;

    private static final int PLACES_MOST = 6;
    private static final int SOUNDS = 4;
    private static final int LOOKS = 4;
    private static final int SIGNS_MOST = 4;
    private static final int ALL_TUGS = 256;
    private static final int ROW_MOST = 9999;
    private static final int SHELVES_MOST = 4;
    private static final int NO_SHELF = 9;
    private static final int TAPE_MOST = 160;
    private static final int WORTHS_MOST = 4;
    private static final int SEEN_MOST = 20;
    private static final int DAYS_MOST = 40;

    private static final int ITEMS = 4;
    private static final int WEIGHT = 0;
    private static final int SOUND = 1;
    private static final int LOOK = 2;
    private static final int FISH = 3;

    private final Tape tape = new Tape();
    private final LakeReader lakeReader = new LakeReader();
    private final Worths worths = new Worths();
    private final Lake lake = new Lake();
    private final State now = new State();
    private final State kept = new State();
    private final Fishing fishing = new Fishing(lake, now);
    private final Search search = new Search(lake, now);
    private final Words words = new Words();
    private final Tally tally = new Tally();
    private final Shelves shelves = new Shelves(lake, fishing, tally);
    private final int[] seenShoal = new int[SEEN_MOST];
    private final int[] seenThrow = new int[SEEN_MOST];
    private int seenMany = 0;
    private boolean hasKept = false;
    private boolean deafLearns = false;
    private boolean blindLearns = false;

    public TugLake() {
    }

    // ---- the tape and the texts

    public int feed(int a, int b, int c, int d, int e) {
        int more = Tape.signsIn(a) + Tape.signsIn(b) + Tape.signsIn(c) + Tape.signsIn(d) + Tape.signsIn(e);
        if (tape.length + more > TAPE_MOST) {
            return NONE;
        }
        tape.add(a);
        tape.add(b);
        tape.add(c);
        tape.add(d);
        tape.add(e);
        return tape.length;
    }

    public boolean end(int n) {
        if (!within(n, 0, tape.length)) {
            return false;
        }
        tape.length = n;
        return true;
    }

    public int fault(int sort) {
        if (sort == 0) {
            return lakeReader.faultOf(tape);
        }
        return sort == 1 ? worths.faultOf(tape) : -2;
    }

    public int text(int sort) {
        if (sort == 0 && lakeReader.faultOf(tape) == NONE) {
            tape.length = 0;
            lake.takeFrom(lakeReader);
            worths.reckonFor(lake);
            forgetOtherLake();
            return lake.places;
        }
        if (sort == 1 && worths.many < WORTHS_MOST && worths.faultOf(tape) == NONE) {
            worths.keep(tape);
            tape.length = 0;
            return worths.many - 1;
        }
        return NONE;
    }

    private void forgetOtherLake() {
        now.startLake(lakeReader.toldLost());
        shelves.clear();
        seenMany = 0;
        hasKept = false;
        deafLearns = false;
        blindLearns = false;
    }

    public int place(int place, int what) throws NoSuchElementException {
        if (!isPlace(place) || !within(what, 0, ITEMS)) {
            throw new NoSuchElementException();
        }
        return what == ITEMS ? lake.worthOf(place) : lake.told(place, what);
    }

    public boolean worth(int worth) {
        if (worth != NONE && !within(worth, 0, worths.many - 1)) {
            return false;
        }
        worths.holding = worth;
        worths.reckonFor(lake);
        return true;
    }

    // ---- what is told of the two

    public boolean set(int what, boolean is) {
        if (!hasLake() || !within(what, 0, 3) || flag(what) == is) {
            return false;
        }
        if (what == 0) {
            now.fog = is;
        } else if (what == 1) {
            now.thunder = is;
        } else if (what == 2) {
            deafLearns = is;
        } else {
            blindLearns = is;
        }
        return true;
    }

    private boolean flag(int what) {
        if (what == 0) {
            return now.fog;
        }
        if (what == 1) {
            return now.thunder;
        }
        return what == 2 ? deafLearns : blindLearns;
    }

    public boolean tugs(int tugs) {
        int row = hasLake() ? tugsOf(tugs, lake.signs) : NONE;
        if (row == NONE) {
            return false;
        }
        now.tugging = row;
        return true;
    }

    public boolean throwTo(int look, int sign, int place) {
        if (!isCast(look, sign) || !isPlace(place)) {
            return false;
        }
        now.throwing = withPlace(now.throwing, look, sign, place);
        return true;
    }

    public int thrown(int look, int sign) {
        return isCast(look, sign) ? placeOf(now.throwing, look, sign) : NONE;
    }

    public boolean wet(int lost) {
        if (!hasLake() || !within(lost, 0, 99) || now.lost == lost) {
            return false;
        }
        now.lost = lost;
        return true;
    }

    // ---- what is caught in the mean

    public boolean answer() {
        if (!hasLake()) {
            return false;
        }
        now.throwing = fishing.answerOf(now.tugging);
        return true;
    }

    public int answerTo(int look, int sign) {
        return isCast(look, sign) ? placeOf(fishing.answerOf(now.tugging), look, sign) : NONE;
    }

    public int mean(int part) {
        if (!hasLake() || !isPart(part)) {
            return NONE;
        }
        return plainMean(fishing.above(now.tugging, now.throwing), part);
    }

    public int tongue(int k, int what) {
        if (!hasLake() || !within(k, 1, SIGNS_MOST) || !within(what, 0, 2)) {
            return NONE;
        }
        search.bySigns(k, now.fog, now.thunder);
        return what == 0 ? search.topRow : plainMean(search.top, what - 1);
    }

    public int sense(boolean fog, boolean thunder, int part) {
        if (!hasLake() || !isPart(part)) {
            return NONE;
        }
        return plainMean(senseAbove(fog, thunder), part);
    }

    private long senseAbove(boolean fog, boolean thunder) {
        search.bySigns(lake.signs, fog, thunder);
        return search.top;
    }

    public int settled(int i) {
        if (!hasLake()) {
            return NONE;
        }
        tally.start(i);
        for (int row = 0; row < ALL_TUGS; row++) {
            if (signsBelow(row, lake.signs) && fishing.isSettled(row)) {
                tally.add(digitsOf(row));
            }
        }
        return tally.told();
    }

    public int worst(int part) {
        if (!hasLake() || !isPart(part)) {
            return NONE;
        }
        long least = NONE;
        for (int row = 0; row < ALL_TUGS; row++) {
            if (signsBelow(row, lake.signs) && fishing.isSettled(row)) {
                long above = fishing.above(row, fishing.answerOf(row));
                least = least == NONE ? above : Math.min(least, above);
            }
        }
        return plainMean(least, part);
    }

    // ---- codes

    public int code(int m, int e, int i) {
        if (!words.make(m, e)) {
            return NONE;
        }
        return i == NONE ? words.length : words.wordAt(i);
    }

    public int read(int m, int e, int word) {
        return words.make(m, e) ? words.meaningOf(word) : NONE;
    }

    public int spread(int m, int e) {
        return words.make(m, e) ? words.leastApart() : NONE;
    }

    // ---- shelves: who with whom

    public boolean shelve(boolean deaf, int shelf) {
        if (!hasLake() || !isShelf(shelf)) {
            return false;
        }
        if (deaf) {
            shelves.throwRows[shelf] = now.throwing;
        } else {
            shelves.tugRows[shelf] = now.tugging;
        }
        return true;
    }

    public int fit(int tugs, int throwing, int part) {
        if (!shelves.hasTugs(tugs) || !shelves.hasThrows(throwing) || !isPart(part)) {
            return NONE;
        }
        return plainMean(fishing.above(shelves.tugRows[tugs], shelves.throwRows[throwing]), part);
    }

    public int pair(int tugs) {
        if (!shelves.hasTugs(tugs)) {
            return NONE;
        }
        shelves.reckonFits();
        return shelves.pairOf(tugs);
    }

    public int leavers(int row, int i) {
        if (!hasLake() || !shelves.isRow(row)) {
            return NONE;
        }
        shelves.reckonFits();
        return shelves.listLeavers(row, i);
    }

    public long crossed(int one, int other, int part) {
        if (!shelves.isBoat(one) || !shelves.isBoat(other) || !isPart(part)) {
            return NONE;
        }
        return plain(shelves.gainOf(one, other), 10000L * lake.weights, part);
    }

    public int rests(int one, int other, int i) {
        if (!shelves.hasTugs(one) || !shelves.hasTugs(other)) {
            return NONE;
        }
        shelves.reckonGains(one, other);
        return shelves.listRests(i);
    }

    // ---- what the blind can have meant

    public int see(int shoal, int thrown) {
        if (!isPlace(shoal) || !isPlace(thrown) || seenMany >= SEEN_MOST) {
            return NONE;
        }
        seenShoal[seenMany] = shoal;
        seenThrow[seenMany] = thrown;
        seenMany++;
        return seenMany;
    }

    public int meant(int i) {
        if (!hasLake()) {
            return NONE;
        }
        tally.start(i);
        for (int row = 0; row < ALL_TUGS; row++) {
            if (signsBelow(row, lake.signs) && canBeMeant(row)) {
                tally.add(digitsOf(row));
            }
        }
        return tally.told();
    }

    private boolean canBeMeant(int row) {
        for (int i = 0; i < seenMany && i < SEEN_MOST; i++) {
            int shoal = seenShoal[i];
            int sign = signOf(row, lake.heard(shoal, now.thunder));
            if (placeOf(now.throwing, lake.seen(shoal, now.fog), sign) != seenThrow[i]) {
                return false;
            }
        }
        return true;
    }

    // ---- days by draws

    public boolean seed(long v) {
        now.draws = v;
        return true;
    }

    public int day() {
        if (!hasLake() || now.days >= DAYS_MOST) {
            return NONE;
        }
        now.startDay();
        int shoal = lake.placeOfDraw(now.draw(lake.weights));
        int heard = lake.heard(shoal, now.thunder);
        int look = lake.seen(shoal, now.fog);
        int sign = signOf(now.tugging, heard);
        int came = sign != 0 && now.draw(100) < now.lost ? 0 : sign;
        boolean there = placeOf(now.throwing, look, came) == shoal;
        int caught = there ? lake.worthOf(shoal) : 0;
        now.endDay(shoal, came, caught);
        if (!there && deafLearns) {
            now.throwing = withPlace(now.throwing, look, came, shoal);
        }
        if (!there && blindLearns) {
            now.tugging = withSign(now.tugging, heard, sign + 1 < lake.signs ? sign + 1 : 0);
        }
        return caught;
    }

    public int was(int day, int what) {
        if (!within(day, 0, now.days - 1) || !within(what, 0, 2)) {
            return NONE;
        }
        if (what == 0) {
            return now.shoalOn(day);
        }
        return what == 1 ? now.cameOn(day) : now.caughtOn(day);
    }

    public int undo() {
        if (now.days < 1) {
            return NONE;
        }
        now.takeBackDay();
        return now.days;
    }

    public int hoard(int place, int what) {
        if (!isPlace(place) || !within(what, 0, 1)) {
            return NONE;
        }
        int sum = 0;
        for (int day = 0; day < now.days; day++) {
            if (now.shoalOn(day) == place) {
                sum += what == 0 ? now.caughtOn(day) : 1;
            }
        }
        return sum;
    }

    public int said(int sound, int sign) {
        if (!hasLake() || !within(sound, 0, SOUNDS - 1) || !within(sign, 0, SIGNS_MOST - 1)) {
            return NONE;
        }
        int often = 0;
        for (int day = 0; day < now.days; day++) {
            if (now.cameOn(day) == sign && lake.told(now.shoalOn(day), SOUND) == sound) {
                often++;
            }
        }
        return often;
    }

    public int run() {
        if (!hasLake()) {
            return NONE;
        }
        int most = 0;
        int empty = 0;
        for (int day = 0; day < now.days; day++) {
            empty = now.caughtOn(day) == 0 ? empty + 1 : 0;
            most = Math.max(most, empty);
        }
        return most;
    }

    public int copy() {
        if (!hasLake()) {
            return NONE;
        }
        long best = fishing.answerOf(now.tugging);
        int alike = 0;
        for (int look = 0; look < LOOKS; look++) {
            for (int sign = 0; sign < lake.signs; sign++) {
                if (placeOf(now.throwing, look, sign) == placeOf(best, look, sign)) {
                    alike++;
                }
            }
        }
        return alike;
    }

    public int image() {
        if (!hasLake()) {
            return NONE;
        }
        kept.takeFrom(now);
        hasKept = true;
        return kept.days;
    }

    public int back() {
        if (!hasKept) {
            return NONE;
        }
        now.takeFrom(kept);
        return now.days;
    }

    // ---- one alone, knots, weather

    public int lone(int who, int part) {
        if (!hasLake() || !within(who, 0, 2) || !isPart(part)) {
            return NONE;
        }
        // The sense that one lacks is asked once only, as if there were one SOUND or one LOOK.
        int sounds = who == 1 ? 1 : SOUNDS;
        int looks = who == 0 ? 1 : LOOKS;
        long above = 0;
        for (int sound = 0; sound < sounds; sound++) {
            for (int look = 0; look < looks; look++) {
                above += 100L * fishing.loneStake(who, sound, look);
            }
        }
        return plainMean(above, part);
    }

    public int alone(int who, int sound, int look) {
        boolean known = within(who, 0, 2) && within(sound, 0, SOUNDS - 1) && within(look, 0, LOOKS - 1);
        return hasLake() && known ? fishing.lonePlace(who, sound, look) : NONE;
    }

    public long knots(int n, int words, int part) {
        if (!hasLake() || !within(n, 1, 3) || !within(words, 0, ROW_MOST) || !isPart(part)) {
            return NONE;
        }
        long above = search.knotsOf(n, words);
        return above == NONE ? NONE : plain(above, search.scale * lake.weights, part);
    }

    public long bestKnots(int n, int what) {
        if (!hasLake() || !within(n, 1, 3) || !within(what, 0, 2)) {
            return NONE;
        }
        search.byKnots(n);
        return what == 0 ? search.topRow : plain(search.top, search.scale * lake.weights, what - 1);
    }

    public long weather(int fog, int thunder, int part) {
        if (!hasLake() || !within(fog, 0, 100) || !within(thunder, 0, 100) || !isPart(part)) {
            return NONE;
        }
        long above = (long) fog * thunder * aboveIn(true, true)
            + (long) fog * (100 - thunder) * aboveIn(true, false)
            + (long) (100 - fog) * thunder * aboveIn(false, true)
            + (long) (100 - fog) * (100 - thunder) * aboveIn(false, false);
        return plain(above, 1000000L * lake.weights, part);
    }

    private long aboveIn(boolean fog, boolean thunder) {
        return fishing.aboveIn(now.tugging, now.throwing, fog, thunder);
    }

    public int skill(int what, int part) {
        if (!hasLake() || !within(what, 0, 2) || !isPart(part)) {
            return HIDDEN;
        }
        return plainMean(senseAbove(false, false) - senseAbove(what != 1, what != 0), part);
    }

    public int cases(int what) {
        if (!hasLake() || !within(what, 0, 1)) {
            return NONE;
        }
        int bits = 0;
        for (int place = 0; place < lake.places; place++) {
            int sign = signOf(now.tugging, lake.heard(place, now.thunder));
            int hundredths = fishing.hit(place, sign, now.throwing, now.fog);
            boolean counts = what == 0 ? hundredths == 100 : within(hundredths, 1, 99);
            if (counts && lake.told(place, WEIGHT) > 0) {
                bits |= 1 << place;
            }
        }
        return bits;
    }

    public int mixed(int i) {
        if (!hasLake()) {
            return NONE;
        }
        tally.start(i);
        for (int sound = 0; sound < SOUNDS; sound++) {
            for (int look = 0; look < LOOKS; look++) {
                if (placesLike(sound, look) > 1) {
                    tally.add(10 * sound + look);
                }
            }
        }
        return tally.told();
    }

    private int placesLike(int sound, int look) {
        int many = 0;
        for (int place = 0; place < lake.places; place++) {
            boolean alike = lake.heard(place, now.thunder) == sound && lake.seen(place, now.fog) == look;
            if (alike && lake.told(place, WEIGHT) > 0) {
                many++;
            }
        }
        return many;
    }

    // ---- counts

    public int count(int what) {
        switch (what) {
            case 0: return lake.places;
            case 1: return lake.signs;
            case 2: return now.lost;
            case 3: return worths.many;
            case 4: return tape.length;
            case 5: return digitsOf(now.tugging);
            case 6: return now.fog ? 1 : 0;
            case 7: return now.thunder ? 1 : 0;
            case 8: return deafLearns ? 1 : 0;
            case 9: return seenMany;
            case 10: return now.days;
            case 11: return caughtInAll();
            case 12: return worths.holding;
            case 13: return blindLearns ? 1 : 0;
            default: return HIDDEN;
        }
    }

    private int caughtInAll() {
        int sum = 0;
        for (int day = 0; day < now.days; day++) {
            sum += now.caughtOn(day);
        }
        return sum;
    }

    // ---- what is there

    private boolean hasLake() {
        return lake.places > 0;
    }

    private boolean isPlace(int place) {
        return within(place, 0, lake.places - 1);
    }

    private boolean isCast(int look, int sign) {
        return hasLake() && within(look, 0, LOOKS - 1) && within(sign, 0, lake.signs - 1);
    }

    private static boolean isPart(int part) {
        return within(part, 0, 1);
    }

    private static boolean isShelf(int shelf) {
        return within(shelf, 0, SHELVES_MOST - 1);
    }

    private static boolean within(int number, int least, int most) {
        return number >= least && number <= most;
    }

    // ---- fractions

    private int plainMean(long above, int part) {
        return (int) plain(above, 100L * lake.weights, part);
    }

    private static long plain(long above, long below, int part) {
        if (above == 0 || below == 0) {
            return part == 0 ? 0 : 1;
        }
        long common = commonOf(above, below);
        if (common == 0) {
            return NONE;
        }
        return part == 0 ? above / common : below / common;
    }

    private static long commonOf(long one, long other) {
        long a = one;
        long b = other;
        for (int step = 0; step < 200 && b != 0; step++) {
            long rest = a % b;
            a = b;
            b = rest;
        }
        return a;
    }

    // ---- TUGS as two bits for each SOUND (SOUND 0 the highest, so that they rise as their digits do)

    private static int signOf(int row, int sound) {
        return (row >>> (6 - 2 * sound)) & 3;
    }

    private static int withSign(int row, int sound, int sign) {
        int shift = 6 - 2 * sound;
        return (row & ~(3 << shift)) | ((sign & 3) << shift);
    }

    private static boolean signsBelow(int row, int signs) {
        for (int sound = 0; sound < SOUNDS; sound++) {
            if (signOf(row, sound) >= signs) {
                return false;
            }
        }
        return true;
    }

    private static int digitsOf(int row) {
        int digits = 0;
        for (int sound = 0; sound < SOUNDS; sound++) {
            digits = 10 * digits + signOf(row, sound);
        }
        return digits;
    }

    private static int tugsOf(int digits, int signs) {
        if (!within(digits, 0, ROW_MOST)) {
            return NONE;
        }
        int row = 0;
        for (int sound = 0; sound < SOUNDS; sound++) {
            int sign = digitOf(digits, sound);
            if (sign >= signs) {
                return NONE;
            }
            row = withSign(row, sound, sign);
        }
        return row;
    }

    private static int digitOf(int digits, int which) {
        int rest = digits;
        for (int i = which; i < 3; i++) {
            rest = rest / 10;
        }
        return rest % 10;
    }

    // ---- THROWS as three bits for each LOOK and SIGN

    private static int placeOf(long row, int look, int sign) {
        return (int) (row >>> (3 * (look * SIGNS_MOST + sign))) & 7;
    }

    private static long withPlace(long row, int look, int sign, int place) {
        int shift = 3 * (look * SIGNS_MOST + sign);
        return (row & ~(7L << shift)) | ((long) (place & 7) << shift);
    }

    /** The bytes that were fed and not yet taken. */
    private static final class Tape {
        final int[] bytes = new int[TAPE_MOST];
        int length = 0;

        static int signsIn(int number) {
            int many = 0;
            for (int shift = 24; shift >= 0; shift -= 8) {
                if (((number >>> shift) & 255) != 0) {
                    many++;
                }
            }
            return many;
        }

        void add(int number) {
            for (int shift = 24; shift >= 0; shift -= 8) {
                int sign = (number >>> shift) & 255;
                if (sign != 0 && length < bytes.length) {
                    bytes[length] = sign;
                    length++;
                }
            }
        }
    }

    /** Goes along a text sign by sign and remembers where it first went wrong. */
    private abstract static class Reader {
        static final int AT_END = -2;

        private final int[] signs = new int[TAPE_MOST];
        private int length = 0;
        private int at = 0;
        private int wrong = NONE;

        final void load(int[] bytes, int from, int many) {
            boolean fits = from >= 0 && many >= 0 && many <= signs.length && from <= bytes.length - many;
            length = fits ? many : 0;
            if (fits) {
                System.arraycopy(bytes, from, signs, 0, many);
            }
            restart();
        }

        final void restart() {
            at = 0;
            wrong = NONE;
        }

        final int mark() {
            return at;
        }

        final void returnTo(int mark) {
            at = mark;
        }

        final int next() {
            while (at < length && signs[at] == ' ') {
                at++;
            }
            return at < length ? signs[at] : AT_END;
        }

        final void pass() {
            if (at < length) {
                at++;
            }
        }

        final boolean take(int sign) {
            if (next() != sign) {
                return false;
            }
            pass();
            return true;
        }

        final void need(int sign) {
            if (next() == sign) {
                at++;
            } else {
                failAt(at);
            }
        }

        /** Blanks may stand anywhere, so what is wrong is the sign behind them. */
        final void fail() {
            next();
            failAt(at);
        }

        final void failAtLength() {
            failAt(length);
        }

        private void failAt(int where) {
            if (wrong == NONE) {
                wrong = where;
            }
        }

        final boolean failed() {
            return wrong != NONE;
        }

        final int faultFound() {
            return wrong;
        }

        /** A number of at most so many digits; the digit too many is wrong whatever its bounds are. */
        final int number(int digitsMost, int least, int most) {
            next();
            int value = 0;
            int digits = 0;
            while (at < length && within(signs[at], '0', '9')) {
                if (digits >= digitsMost) {
                    failAt(at);
                    return 0;
                }
                value = 10 * value + signs[at] - '0';
                digits++;
                at++;
            }
            if (digits == 0) {
                failAt(at);
            } else if (!within(value, least, most)) {
                failAt(at - 1);
            }
            return value;
        }
    }

    /** Reads the text of a LAKE into a draft. */
    private static final class LakeReader extends Reader {
        private static final String PLACE_LETTERS = "wslf";
        private static final int[] PLACE_LEAST = {0, 0, 0, 0};
        private static final int[] PLACE_MOST = {9, 3, 3, 99};
        private static final String LINE_LETTERS = "kt";
        private static final int[] LINE_LEAST = {1, 0};
        private static final int[] LINE_MOST = {4, 99};

        private final int[] draft = new int[PLACES_MOST * ITEMS];
        private final int[] line = new int[2];
        private int draftPlaces = 0;
        private boolean hasLine = false;

        int faultOf(Tape tape) {
            load(tape.bytes, 0, tape.length);
            draftPlaces = 0;
            hasLine = false;
            line[0] = 2;
            line[1] = 0;
            readClauses();
            if (draftPlaces < 2 || allWeights() == 0) {
                failAtLength();
            }
            return faultFound();
        }

        int toldPlaces() {
            return draftPlaces;
        }

        int toldItem(int place, int item) {
            boolean there = within(place, 0, PLACES_MOST - 1) && within(item, 0, ITEMS - 1);
            return there ? draft[place * ITEMS + item] : 0;
        }

        int toldSigns() {
            return line[0];
        }

        int toldLost() {
            return line[1];
        }

        private int allWeights() {
            int sum = 0;
            for (int place = 0; place < draftPlaces; place++) {
                sum += toldItem(place, WEIGHT);
            }
            return sum;
        }

        private void readClauses() {
            for (int clause = 0; clause <= TAPE_MOST; clause++) {
                if (draftPlaces < PLACES_MOST && take('p')) {
                    readPlace();
                } else if (!hasLine && take('b')) {
                    hasLine = true;
                    readItems(LINE_LETTERS, LINE_LEAST, LINE_MOST, line, 0);
                } else {
                    fail();
                }
                if (failed() || next() == AT_END) {
                    return;
                }
                need(';');
            }
        }

        private void readPlace() {
            int from = draftPlaces * ITEMS;
            if (from > draft.length - ITEMS) {
                fail();
                return;
            }
            draft[from + WEIGHT] = 1;
            draft[from + SOUND] = 0;
            draft[from + LOOK] = 0;
            draft[from + FISH] = 10;
            draftPlaces++;
            readItems(PLACE_LETTERS, PLACE_LEAST, PLACE_MOST, draft, from);
        }

        private void readItems(String letters, int[] least, int[] most, int[] into, int from) {
            int there = 0;
            for (int step = 0; step <= TAPE_MOST; step++) {
                int sign = next();
                if (sign == AT_END || sign == ';') {
                    return;
                }
                int item = letters.indexOf((char) sign);
                boolean known = within(item, 0, least.length - 1) && item < most.length
                    && within(from + item, 0, into.length - 1);
                if (!known || (there & (1 << item)) != 0) {
                    fail();
                    return;
                }
                there |= 1 << item;
                pass();
                into[from + item] = number(2, least[item], most[item]);
                if (failed()) {
                    return;
                }
            }
        }
    }

    /** The WORTHS as they were told, which are read anew for each PLACE that they are asked for. */
    private static final class Worths extends Reader {
        private static final int NEST_MOST = 6;
        private static final int NUMBER_MOST = 1000000;
        private static final int WORTH_MOST = 999;
        private static final String LETTERS = "fpslw";

        int many = 0;
        int holding = NONE;
        private final int[] texts = new int[WORTHS_MOST * TAPE_MOST];
        private final int[] lengths = new int[WORTHS_MOST];
        private final int[] letterValues = new int[5];
        private boolean found = false;
        private int value = 0;

        int faultOf(Tape tape) {
            load(tape.bytes, 0, tape.length);
            readClauses();
            return faultFound();
        }

        void keep(Tape tape) {
            if (within(many, 0, WORTHS_MOST - 1) && within(tape.length, 0, TAPE_MOST)) {
                System.arraycopy(tape.bytes, 0, texts, many * TAPE_MOST, tape.length);
                lengths[many] = tape.length;
                many++;
            }
        }

        void reckonFor(Lake lake) {
            boolean holds = within(holding, 0, WORTHS_MOST - 1);
            if (holds) {
                load(texts, holding * TAPE_MOST, lengths[holding]);
            }
            for (int place = 0; place < lake.places; place++) {
                value = lake.told(place, FISH);
                if (holds) {
                    letItBe(lake, place);
                    restart();
                    readClauses();
                }
                lake.setWorth(place, Math.max(0, Math.min(WORTH_MOST, value)));
            }
        }

        /** The letters stand for this PLACE from now on. */
        private void letItBe(Lake lake, int place) {
            letterValues[0] = lake.told(place, FISH);
            letterValues[1] = place;
            letterValues[2] = lake.told(place, SOUND);
            letterValues[3] = lake.told(place, LOOK);
            letterValues[4] = lake.told(place, WEIGHT);
        }

        private void readClauses() {
            found = false;
            value = 0;
            for (int clause = 0; clause <= TAPE_MOST; clause++) {
                readClause();
                if (failed() || next() == AT_END) {
                    return;
                }
                need(';');
            }
        }

        private void readClause() {
            need('y');
            need(':');
            if (failed()) {
                return;
            }
            boolean holds = true;
            if (hasCondition()) {
                holds = readCondition(0);
                need('?');
            }
            int sum = failed() ? 0 : readSum(0);
            if (holds && !found) {
                found = true;
                value = sum;
            }
        }

        /** A SUM may open a CONDITION too: what stands behind it tells, so it is read and gone back from. */
        private boolean hasCondition() {
            int sign = next();
            if (sign == '!' || sign == '(') {
                return true;
            }
            int mark = mark();
            readSum(0);
            if (failed()) {
                return false;
            }
            boolean compares = isComparison(next());
            returnTo(mark);
            return compares;
        }

        private static boolean isComparison(int sign) {
            return sign == '=' || sign == '<' || sign == '>';
        }

        private boolean readCondition(int depth) {
            boolean any = false;
            boolean all = true;
            for (int step = 0; step <= TAPE_MOST; step++) {
                boolean unit = readUnit(depth);
                all = all && unit;
                if (failed()) {
                    return false;
                }
                if (!take('&')) {
                    any = any || all;
                    all = true;
                    if (!take('|')) {
                        return any;
                    }
                }
            }
            return any;
        }

        private boolean readUnit(int depth) {
            if (depth < NEST_MOST && take('!')) {
                return !readUnit(depth + 1);
            }
            if (depth < NEST_MOST && take('(')) {
                boolean holds = readCondition(depth + 1);
                need(')');
                return holds;
            }
            int left = readSum(depth);
            int sign = next();
            if (failed() || !isComparison(sign)) {
                fail();
                return false;
            }
            pass();
            int right = readSum(depth);
            if (sign == '=') {
                return left == right;
            }
            return sign == '<' ? left < right : left > right;
        }

        private int readSum(int depth) {
            long sum = 0;
            boolean minus = false;
            for (int step = 0; step <= TAPE_MOST; step++) {
                int term = readTerm(depth);
                sum = held(minus ? sum - term : sum + term);
                int sign = next();
                if (failed() || (sign != '+' && sign != '-')) {
                    return (int) sum;
                }
                minus = sign == '-';
                pass();
            }
            return (int) sum;
        }

        private int readTerm(int depth) {
            long term = readAtom(depth);
            for (int step = 0; step <= TAPE_MOST; step++) {
                int sign = next();
                if (failed() || (sign != '*' && sign != '/')) {
                    return (int) term;
                }
                pass();
                int atom = readAtom(depth);
                if (sign == '*') {
                    term = held(term * atom);
                } else {
                    term = atom == 0 ? 0 : held(term / atom);
                }
            }
            return (int) term;
        }

        private int readAtom(int depth) {
            int sign = next();
            if (within(sign, '0', '9')) {
                return number(4, 0, NUMBER_MOST);
            }
            if (depth < NEST_MOST && take('[')) {
                int sum = readSum(depth + 1);
                need(']');
                return sum;
            }
            int letter = sign == AT_END ? NONE : LETTERS.indexOf((char) sign);
            if (!within(letter, 0, letterValues.length - 1)) {
                fail();
                return 0;
            }
            pass();
            return letterValues[letter];
        }

        private static long held(long number) {
            return Math.max(-NUMBER_MOST, Math.min(NUMBER_MOST, number));
        }
    }

    /** The PLACES, how many SIGNS the line has, and what a catch is worth now. */
    private static final class Lake {
        int places = 0;
        int signs = 0;
        int weights = 0;
        private final int[] items = new int[PLACES_MOST * ITEMS];
        private final int[] values = new int[PLACES_MOST];
        private final int[] stakes = new int[PLACES_MOST];

        void takeFrom(LakeReader reader) {
            places = Math.min(PLACES_MOST, reader.toldPlaces());
            signs = reader.toldSigns();
            weights = 0;
            for (int place = 0; place < places; place++) {
                for (int item = 0; item < ITEMS; item++) {
                    items[place * ITEMS + item] = reader.toldItem(place, item);
                }
                weights += reader.toldItem(place, WEIGHT);
            }
        }

        int told(int place, int item) {
            boolean there = place >= 0 && place < PLACES_MOST && item >= 0 && item < ITEMS;
            return there ? items[place * ITEMS + item] : 0;
        }

        void setWorth(int place, int value) {
            if (within(place, 0, PLACES_MOST - 1)) {
                values[place] = value;
                stakes[place] = value * told(place, WEIGHT);
            }
        }

        int worthOf(int place) {
            return place >= 0 && place < PLACES_MOST ? values[place] : 0;
        }

        /** What a PLACE adds to the MEAN if it is always caught there, above all WEIGHTS. */
        int stakeOf(int place) {
            return place >= 0 && place < PLACES_MOST ? stakes[place] : 0;
        }

        int heard(int place, boolean thunder) {
            return thunder ? 0 : told(place, SOUND);
        }

        int seen(int place, boolean fog) {
            return fog ? 0 : told(place, LOOK);
        }

        int placeOfDraw(int drawn) {
            int rest = drawn;
            for (int place = 0; place < places; place++) {
                rest -= told(place, WEIGHT);
                if (rest < 0) {
                    return place;
                }
            }
            return 0;
        }
    }

    /** All that an IMAGE keeps; each DAY has with it what was ahead of it, so that it can be UNDONE. */
    private static final class State {
        private static final long FACTOR = 6364136223846793005L;
        private static final long STEP = 1442695040888963407L;

        int tugging = 0;
        long throwing = 0;
        long draws = 0;
        boolean fog = false;
        boolean thunder = false;
        int lost = 0;
        int days = 0;
        private final int[] where = new int[DAYS_MOST];
        private final int[] came = new int[DAYS_MOST];
        private final int[] caught = new int[DAYS_MOST];
        private final int[] tuggingAhead = new int[DAYS_MOST];
        private final long[] throwingAhead = new long[DAYS_MOST];
        private final long[] drawsAhead = new long[DAYS_MOST];

        void startLake(int toldLost) {
            tugging = 0;
            throwing = 0;
            fog = false;
            thunder = false;
            lost = toldLost;
            days = 0;
        }

        int draw(int k) {
            draws = draws * FACTOR + STEP;
            return k < 1 ? 0 : (int) ((draws >>> 33) % k);
        }

        void startDay() {
            if (within(days, 0, DAYS_MOST - 1)) {
                tuggingAhead[days] = tugging;
                throwingAhead[days] = throwing;
                drawsAhead[days] = draws;
            }
        }

        void endDay(int shoal, int sign, int caughtThen) {
            if (within(days, 0, DAYS_MOST - 1)) {
                where[days] = shoal;
                came[days] = sign;
                caught[days] = caughtThen;
                days++;
            }
        }

        int shoalOn(int day) {
            return within(day, 0, DAYS_MOST - 1) ? where[day] : NONE;
        }

        int cameOn(int day) {
            return within(day, 0, DAYS_MOST - 1) ? came[day] : NONE;
        }

        int caughtOn(int day) {
            return within(day, 0, DAYS_MOST - 1) ? caught[day] : NONE;
        }

        void takeBackDay() {
            if (within(days, 1, DAYS_MOST)) {
                days--;
                tugging = tuggingAhead[days];
                throwing = throwingAhead[days];
                draws = drawsAhead[days];
            }
        }

        void takeFrom(State other) {
            tugging = other.tugging;
            throwing = other.throwing;
            draws = other.draws;
            fog = other.fog;
            thunder = other.thunder;
            lost = other.lost;
            days = Math.min(DAYS_MOST, other.days);
            System.arraycopy(other.where, 0, where, 0, days);
            System.arraycopy(other.came, 0, came, 0, days);
            System.arraycopy(other.caught, 0, caught, 0, days);
            System.arraycopy(other.tuggingAhead, 0, tuggingAhead, 0, days);
            System.arraycopy(other.throwingAhead, 0, throwingAhead, 0, days);
            System.arraycopy(other.drawsAhead, 0, drawsAhead, 0, days);
        }
    }

    /** MEANS above 100 times all WEIGHTS, by TUGS and THROWS. */
    private static final class Fishing {
        private final Lake lake;
        private final State state;
        private final int[] best = new int[LOOKS * SIGNS_MOST];
        private final int[] gains = new int[SOUNDS * SIGNS_MOST];

        Fishing(Lake lake, State state) {
            this.lake = lake;
            this.state = state;
        }

        /** In how many of 100 the throw is where the shoal is, if this SIGN is tugged. */
        int hit(int place, int sign, long throwing, boolean fog) {
            int look = lake.seen(place, fog);
            int hundredths = 0;
            if (placeOf(throwing, look, sign) == place) {
                hundredths += sign == 0 ? 100 : 100 - state.lost;
            }
            if (sign != 0 && placeOf(throwing, look, 0) == place) {
                hundredths += state.lost;
            }
            return hundredths;
        }

        int hitBy(int place, int tugging, long throwing) {
            int sign = signOf(tugging, lake.heard(place, state.thunder));
            return hit(place, sign, throwing, state.fog);
        }

        long above(int tugging, long throwing) {
            return aboveIn(tugging, throwing, state.fog, state.thunder);
        }

        long aboveIn(int tugging, long throwing, boolean fog, boolean thunder) {
            long sum = 0;
            for (int place = 0; place < lake.places; place++) {
                int sign = signOf(tugging, lake.heard(place, thunder));
                sum += (long) lake.stakeOf(place) * hit(place, sign, throwing, fog);
            }
            return sum;
        }

        /** A PLACE is caught by a throw to it alone, so each LOOK and SIGN takes its greatest PLACE. */
        long answerOf(int tugging) {
            Arrays.fill(best, 0);
            long answer = 0;
            for (int place = 0; place < lake.places; place++) {
                int sign = signOf(tugging, lake.heard(place, state.thunder));
                answer = offer(answer, place, 0, sign == 0 ? 100 : state.lost);
                if (sign != 0) {
                    answer = offer(answer, place, sign, 100 - state.lost);
                }
            }
            return answer;
        }

        private long offer(long answer, int place, int sign, int hundredths) {
            int look = lake.seen(place, state.fog);
            int cell = look * SIGNS_MOST + sign;
            int value = lake.stakeOf(place) * hundredths;
            if (!within(cell, 0, best.length - 1) || value <= best[cell]) {
                return answer;
            }
            best[cell] = value;
            return withPlace(answer, look, sign, place);
        }

        /** Each SOUND has its own share of the MEAN, so other TUGS gain only if one SOUND's SIGN does. */
        boolean isSettled(int tugging) {
            reckonGains(answerOf(tugging));
            for (int sound = 0; sound < SOUNDS; sound++) {
                int own = gains[sound * SIGNS_MOST + signOf(tugging, sound)];
                for (int sign = 0; sign < SIGNS_MOST; sign++) {
                    if (gains[sound * SIGNS_MOST + sign] > own) {
                        return false;
                    }
                }
            }
            return true;
        }

        private void reckonGains(long throwing) {
            Arrays.fill(gains, 0);
            int signs = Math.min(SIGNS_MOST, lake.signs);
            for (int place = 0; place < lake.places; place++) {
                int from = lake.heard(place, state.thunder) * SIGNS_MOST;
                if (within(from, 0, gains.length - SIGNS_MOST)) {
                    int stake = lake.stakeOf(place);
                    for (int sign = 0; sign < signs; sign++) {
                        gains[from + sign] += stake * hit(place, sign, throwing, state.fog);
                    }
                }
            }
        }

        private boolean perceives(int who, int place, int sound, int look) {
            boolean hears = who == 1 || lake.heard(place, state.thunder) == sound;
            return hears && (who == 0 || lake.seen(place, state.fog) == look);
        }

        int lonePlace(int who, int sound, int look) {
            int most = 0;
            int bestPlace = 0;
            for (int place = 0; place < lake.places; place++) {
                if (lake.stakeOf(place) > most && perceives(who, place, sound, look)) {
                    most = lake.stakeOf(place);
                    bestPlace = place;
                }
            }
            return bestPlace;
        }

        int loneStake(int who, int sound, int look) {
            int place = lonePlace(who, sound, look);
            return perceives(who, place, sound, look) ? lake.stakeOf(place) : 0;
        }
    }

    /** Tries all rows of SIGNS, or of WORDS of long and short tugs, for the four SOUNDS. */
    private static final class Search {
        private static final int WORDS_MOST = 8;
        private static final int CELLS = LOOKS * WORDS_MOST;

        long top = 0;
        int topRow = 0;
        // What the chances of WORDS are parts of; those of SIGNS are hundredths.
        long scale = 1;
        private final Lake lake;
        private final State state;
        private final long[] chances = new long[WORDS_MOST * WORDS_MOST];
        private final long[] best = new long[(SOUNDS + 1) * CELLS];
        private final int[] sounds = new int[PLACES_MOST];
        private final int[] looks = new int[PLACES_MOST];
        private final long[] stakes = new long[PLACES_MOST];
        private int places = 0;
        private int size = 0;

        Search(Lake lake, State state) {
            this.lake = lake;
            this.state = state;
        }

        void bySigns(int signs, boolean fog, boolean thunder) {
            prepare(Math.min(SIGNS_MOST, signs), fog, thunder);
            for (int sent = 0; sent < size; sent++) {
                chances[sent * WORDS_MOST] = sent == 0 ? 100 : state.lost;
                for (int came = 1; came < size; came++) {
                    chances[sent * WORDS_MOST + came] = came == sent ? 100 - state.lost : 0;
                }
            }
            findTop();
        }

        void byKnots(int n) {
            prepareKnots(n);
            findTop();
        }

        /** The MEAN of one row of WORDS; NONE if one of them has more tugs. */
        long knotsOf(int n, int row) {
            prepareKnots(n);
            long sum = 0;
            for (int sound = 0; sound < SOUNDS; sound++) {
                int word = digitOf(row, sound);
                if (word >= size) {
                    return NONE;
                }
                sum = addSound(sound, word, sum);
            }
            return sum;
        }

        private void prepareKnots(int n) {
            int tugs = Math.max(1, Math.min(3, n));
            prepare(1 << tugs, state.fog, state.thunder);
            scale = 1;
            for (int tug = 0; tug < tugs; tug++) {
                scale = scale * 100;
            }
            for (int sent = 0; sent < size; sent++) {
                for (int came = 0; came < size; came++) {
                    chances[sent * WORDS_MOST + came] = knotChance(tugs, sent, came);
                }
            }
        }

        private long knotChance(int tugs, int sent, int came) {
            long chance = 1;
            for (int tug = 0; tug < tugs; tug++) {
                int longSent = (sent >>> tug) & 1;
                int longCame = (came >>> tug) & 1;
                if (longSent == 1) {
                    chance = chance * (longCame == 1 ? 100 - state.lost : state.lost);
                } else {
                    chance = chance * (longCame == 1 ? 0 : 100);
                }
            }
            return chance;
        }

        private void prepare(int wordsThere, boolean fog, boolean thunder) {
            size = wordsThere;
            places = Math.min(PLACES_MOST, lake.places);
            for (int place = 0; place < places; place++) {
                sounds[place] = lake.heard(place, thunder);
                looks[place] = lake.seen(place, fog);
                stakes[place] = lake.stakeOf(place);
            }
            Arrays.fill(best, 0L);
        }

        private void findTop() {
            top = NONE;
            topRow = 0;
            tryWords(0, 0, 0);
        }

        private void tryWords(int sound, long sum, int row) {
            if (sound >= SOUNDS) {
                if (sum > top) {
                    top = sum;
                    topRow = row;
                }
                return;
            }
            // A SOUND of nothing worth catching changes no MEAN: its least WORD is the one to tell.
            int tries = isWorthHearing(sound) ? size : 1;
            for (int word = 0; word < tries; word++) {
                tryWords(sound + 1, addSound(sound, word, sum), 10 * row + word);
            }
        }

        private boolean isWorthHearing(int sound) {
            for (int place = 0; place < places; place++) {
                if (sounds[place] == sound && stakes[place] > 0) {
                    return true;
                }
            }
            return false;
        }

        /** Each SOUND has a level of its own, so that the WORDS of the SOUNDS ahead need no new reckoning. */
        private long addSound(int sound, int word, long sum) {
            int level = (sound + 1) * CELLS;
            if (!within(level, CELLS, best.length - CELLS)) {
                return sum;
            }
            System.arraycopy(best, level - CELLS, best, level, CELLS);
            long grown = sum;
            for (int place = 0; place < places; place++) {
                if (sounds[place] == sound) {
                    grown += addPlace(place, word, level);
                }
            }
            return grown;
        }

        private long addPlace(int place, int word, int level) {
            long more = 0;
            int from = level + looks[place] * WORDS_MOST;
            if (!within(word, 0, WORDS_MOST - 1) || !within(from, 0, best.length - WORDS_MOST)) {
                return 0;
            }
            // What is LOST only takes bits away, so no WORD comes that is above the one tugged.
            for (int came = 0; came <= word; came++) {
                long value = stakes[place] * chances[word * WORDS_MOST + came];
                if (value > best[from + came]) {
                    more += value - best[from + came];
                    best[from + came] = value;
                }
            }
            return more;
        }
    }

    /** The words of a CODE, made anew for each question. */
    private static final class Words {
        private static final int MEANINGS_MOST = 16;
        private static final int LOST_MOST = 3;
        private static final int TUGS_MOST = 8;

        int length = 0;
        private int many = 0;
        private final int[] taken = new int[MEANINGS_MOST];

        boolean make(int meanings, int lost) {
            if (!within(meanings, 1, MEANINGS_MOST) || !within(lost, 0, LOST_MOST)) {
                return false;
            }
            for (length = 1; length <= TUGS_MOST; length++) {
                takeWords(meanings, lost);
                if (many >= meanings) {
                    return true;
                }
            }
            return false;
        }

        private void takeWords(int meanings, int lost) {
            many = 0;
            for (int word = 0; word < 1 << length && many < meanings && many < taken.length; word++) {
                if (isApart(word, lost)) {
                    taken[many] = word;
                    many++;
                }
            }
        }

        private boolean isApart(int word, int lost) {
            for (int i = 0; i < many; i++) {
                if (Integer.bitCount(taken[i] ^ word) <= lost) {
                    return false;
                }
            }
            return true;
        }

        int wordAt(int i) {
            return within(i, 0, many - 1) ? taken[i] : NONE;
        }

        int meaningOf(int word) {
            if (!within(word, 0, (1 << length) - 1)) {
                return NONE;
            }
            int least = TUGS_MOST + 1;
            int meaning = NONE;
            for (int i = 0; i < many; i++) {
                int apart = Integer.bitCount(taken[i] ^ word);
                if (apart < least) {
                    least = apart;
                    meaning = i;
                } else if (apart == least) {
                    meaning = NONE;
                }
            }
            return meaning;
        }

        int leastApart() {
            int least = TUGS_MOST + 1;
            for (int i = 1; i < many; i++) {
                for (int j = 0; j < i; j++) {
                    least = Math.min(least, Integer.bitCount(taken[i] ^ taken[j]));
                }
            }
            return many < 2 ? NONE : least;
        }
    }

    /** Counts what is listed and remembers the one asked for, so that no list need be kept. */
    private static final class Tally {
        private int wanted = NONE;
        private int many = 0;
        private int picked = NONE;

        void start(int which) {
            wanted = which;
            many = 0;
            picked = NONE;
        }

        void add(int value) {
            if (many == wanted) {
                picked = value;
            }
            many++;
        }

        int told() {
            return wanted == NONE ? many : picked;
        }
    }

    /** TUGS and THROWS put by, and how they go together. */
    private static final class Shelves {
        final int[] tugRows = new int[SHELVES_MOST];
        final long[] throwRows = new long[SHELVES_MOST];
        private final Lake lake;
        private final Fishing fishing;
        private final Tally tally;
        private final long[] fits = new long[SHELVES_MOST * SHELVES_MOST];
        private final long[] gains = new long[SHELVES_MOST * SHELVES_MOST];
        private final long[] otherGains = new long[SHELVES_MOST * SHELVES_MOST];

        Shelves(Lake lake, Fishing fishing, Tally tally) {
            this.lake = lake;
            this.fishing = fishing;
            this.tally = tally;
            Arrays.fill(tugRows, NONE);
            Arrays.fill(throwRows, (long) NONE);
        }

        void clear() {
            Arrays.fill(tugRows, NONE);
            Arrays.fill(throwRows, (long) NONE);
        }

        boolean hasTugs(int shelf) {
            return isShelf(shelf) && tugRows[shelf] != NONE;
        }

        boolean hasThrows(int shelf) {
            return isShelf(shelf) && throwRows[shelf] != NONE;
        }

        boolean isBoat(int code) {
            return code >= 0 && hasTugs(code / 10) && hasThrows(code % 10);
        }

        void reckonFits() {
            for (int one = 0; one < SHELVES_MOST; one++) {
                for (int other = 0; other < SHELVES_MOST; other++) {
                    boolean both = hasTugs(one) && hasThrows(other);
                    fits[one * SHELVES_MOST + other] = both ? fishing.above(tugRows[one], throwRows[other]) : NONE;
                }
            }
        }

        /** By FITS that were reckoned ahead of it; those of shelves that are paired are struck out. */
        int pairOf(int shelf) {
            for (int round = 0; round < SHELVES_MOST; round++) {
                int cell = bestFit();
                if (cell == NONE) {
                    return NONE;
                }
                if (cell / SHELVES_MOST == shelf) {
                    return cell % SHELVES_MOST;
                }
                strikeOut(cell / SHELVES_MOST, cell % SHELVES_MOST);
            }
            return NONE;
        }

        private int bestFit() {
            int bestCell = NONE;
            long most = NONE;
            for (int cell = 0; cell < fits.length; cell++) {
                if (fits[cell] > most) {
                    most = fits[cell];
                    bestCell = cell;
                }
            }
            return bestCell;
        }

        private void strikeOut(int one, int other) {
            for (int shelf = 0; shelf < SHELVES_MOST; shelf++) {
                fits[one * SHELVES_MOST + shelf] = NONE;
                fits[shelf * SHELVES_MOST + other] = NONE;
            }
        }

        boolean isRow(int row) {
            if (!within(row, 0, ROW_MOST)) {
                return false;
            }
            int there = 0;
            for (int shelf = 0; shelf < SHELVES_MOST; shelf++) {
                int other = digitOf(row, shelf);
                if (other != NO_SHELF) {
                    if (!hasTugs(shelf) || !hasThrows(other) || (there & (1 << other)) != 0) {
                        return false;
                    }
                    there |= 1 << other;
                }
            }
            return true;
        }

        int listLeavers(int row, int which) {
            tally.start(which);
            for (int one = 0; one < SHELVES_MOST; one++) {
                for (int other = 0; other < SHELVES_MOST; other++) {
                    long fit = fits[one * SHELVES_MOST + other];
                    if (fit > tugsFitNow(row, one) && fit > throwsFitNow(row, other)) {
                        tally.add(10 * one + other);
                    }
                }
            }
            return tally.told();
        }

        private long tugsFitNow(int row, int shelf) {
            int other = digitOf(row, shelf);
            return isShelf(other) ? fits[shelf * SHELVES_MOST + other] : NONE;
        }

        private long throwsFitNow(int row, int shelf) {
            for (int one = 0; one < SHELVES_MOST; one++) {
                if (digitOf(row, one) == shelf) {
                    return fits[one * SHELVES_MOST + shelf];
                }
            }
            return NONE;
        }

        /** What the one of two boats has, above 10,000 times all WEIGHTS; boats that are there. */
        long gainOf(int one, int other) {
            if (!isBoat(one) || !isBoat(other)) {
                return NONE;
            }
            long sum = 0;
            for (int place = 0; place < lake.places; place++) {
                long own = fishing.hitBy(place, tugRows[one / 10], throwRows[one % 10]);
                long others = fishing.hitBy(place, tugRows[other / 10], throwRows[other % 10]);
                long worth = lake.worthOf(place);
                long had = own * others * (worth / 2) + own * (100 - others) * worth;
                sum += had * lake.told(place, WEIGHT);
            }
            return sum;
        }

        int listRests(int which) {
            tally.start(which);
            for (int a = 0; a < SHELVES_MOST; a++) {
                for (int b = 0; b < SHELVES_MOST; b++) {
                    if (hasThrows(a) && hasThrows(b) && isRest(a, b)) {
                        tally.add(10 * a + b);
                    }
                }
            }
            return tally.told();
        }

        void reckonGains(int one, int other) {
            for (int a = 0; a < SHELVES_MOST; a++) {
                for (int b = 0; b < SHELVES_MOST; b++) {
                    gains[a * SHELVES_MOST + b] = gainOf(10 * one + a, 10 * other + b);
                    otherGains[a * SHELVES_MOST + b] = gainOf(10 * other + b, 10 * one + a);
                }
            }
        }

        private boolean isRest(int a, int b) {
            long own = gains[a * SHELVES_MOST + b];
            long others = otherGains[a * SHELVES_MOST + b];
            for (int shelf = 0; shelf < SHELVES_MOST; shelf++) {
                if (gains[shelf * SHELVES_MOST + b] > own || otherGains[a * SHELVES_MOST + shelf] > others) {
                    return false;
                }
            }
            return true;
        }
    }
}
