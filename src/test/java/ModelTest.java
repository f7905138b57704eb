import java.util.ArrayList;
import java.util.Arrays;
import java.util.LinkedHashSet;
import java.util.List;
import java.util.NoSuchElementException;
import java.util.Random;
import java.util.Set;
import java.util.TreeSet;

/**
 * Long random runs of calls, each answered by TugLake and by a slow model that is written straight
 * from the document: means by going over all that can happen, the best by trying all there is,
 * faults by keeping all ways in which a text can go on.
 */
public final class ModelTest {
    private static int wrong = 0;
    private static long calls = 0;

    public static void main(String[] args) {
        int runs = args.length > 0 ? Integer.parseInt(args[0]) : 260;
        long first = args.length > 1 ? Long.parseLong(args[1]) : 1;
        for (long seed = first; seed < first + runs && wrong < 20; seed++) {
            new Run(seed).go();
        }
        for (long seed = first; seed < first + 100L * runs && wrong < 20; seed++) {
            faults(new Random(seed));
        }
        for (String start : new String[] {"", "p;p;p;p;p;p;b", "p;p;p;p;p;p", "b;p", "pw0;p", "bk", "p;pw"}) {
            allBehind(start, "p;b wk05", 4, 0);
        }
        for (String start : new String[] {"", "y:", "y:!!!!", "y:[[[[", "y:f=1", "y:1;", "y:(1=1)"}) {
            allBehind(start, "y:?!(=|+[])f1; ", 3, 1);
        }
        System.out.println(calls + " calls, " + wrong + " answers are not as the model's");
        if (wrong != 0) {
            System.exit(1);
        }
    }

    static void due(String call, long got, long want) {
        calls++;
        if (got != want) {
            wrong++;
            System.out.println(call + " answered " + got + ", due is " + want);
        }
    }

    // All texts with this start and at most so many of these signs behind it.
    static void allBehind(String text, String signs, int most, int sort) {
        TugLake lake = new TugLake();
        Texts.feed(lake, text);
        due("fault of " + text, lake.fault(sort), sort == 0 ? Grammar.lakeFault(text) : Grammar.worthFault(text));
        for (int i = 0; i < signs.length() && most > 0 && wrong < 20; i++) {
            allBehind(text + signs.charAt(i), signs, most - 1, sort);
        }
    }

    static void faults(Random random) {
        TugLake lake = new TugLake();
        for (int i = 0; i < 12; i++) {
            String text = random.nextInt(4) == 0 ? Texts.noise(random) : random.nextBoolean()
                ? Texts.spoil(Texts.lake(random), random) : Texts.spoil(Texts.worth(random), random);
            lake.end(0);
            Texts.feed(lake, text);
            due("fault(0) of " + text, lake.fault(0), Grammar.lakeFault(text));
            due("fault(1) of " + text, lake.fault(1), Grammar.worthFault(text));
        }
    }

    /** Texts by chance. */
    static final class Texts {
        static void feed(TugLake lake, String text) {
            for (int from = 0; from < text.length(); from += 20) {
                int[] five = chunk(text, from);
                lake.feed(five[0], five[1], five[2], five[3], five[4]);
            }
        }

        static int[] chunk(String text, int from) {
            int[] five = new int[5];
            for (int i = 0; i < 20; i++) {
                int sign = from + i < text.length() ? text.charAt(from + i) : 0;
                five[i / 4] |= sign << (24 - 8 * (i % 4));
            }
            return five;
        }

        static String lake(Random random) {
            List<String> clauses = new ArrayList<>();
            int places = random.nextInt(3) == 0 ? 6 : 2 + random.nextInt(5);
            boolean zero = random.nextInt(3) == 0;
            for (int i = 0; i < places; i++) {
                StringBuilder clause = new StringBuilder("p");
                if (random.nextInt(3) > 0) {
                    clause.append("w").append(zero && random.nextBoolean() ? 0 : random.nextInt(10));
                }
                if (random.nextInt(5) > 0) {
                    clause.append("s").append(random.nextInt(4));
                }
                if (random.nextInt(3) > 0) {
                    clause.append("l").append(random.nextInt(random.nextBoolean() ? 2 : 4));
                }
                if (random.nextInt(3) > 0) {
                    clause.append("f").append(random.nextBoolean() ? random.nextInt(100) : 10 * random.nextInt(4));
                }
                clauses.add(clause.toString());
            }
            if (random.nextInt(5) > 0) {
                String line = "b" + (random.nextInt(4) > 0 ? "k" + (1 + random.nextInt(4)) : "");
                line += random.nextInt(4) > 0 ? "t" + (random.nextBoolean() ? random.nextInt(100) : random.nextInt(20)) : "";
                clauses.add(random.nextInt(places + 1), line);
            }
            String text = String.join(";", clauses);
            return text.length() <= 160 ? text : "pw2s1;ps2l1;bk3t20";
        }

        static String worth(Random random) {
            StringBuilder text = new StringBuilder();
            int clauses = 1 + random.nextInt(3);
            for (int i = 0; i < clauses; i++) {
                text.append(i > 0 ? ";" : "").append("y:");
                if (random.nextInt(3) > 0) {
                    text.append(condition(random, 0)).append("?");
                }
                text.append(sum(random, 0));
            }
            return text.length() <= 160 ? text.toString() : "y:f>[10]&!p=1?f*3-w;y:f/[p-2]";
        }

        static String condition(Random random, int depth) {
            StringBuilder text = new StringBuilder(unit(random, depth));
            while (random.nextInt(4) == 0) {
                text.append(random.nextBoolean() ? "|" : "&").append(unit(random, depth));
            }
            return text.toString();
        }

        static String unit(Random random, int depth) {
            int way = depth > 6 ? 2 : random.nextInt(5);
            if (way == 0) {
                return "!" + unit(random, depth + 1);
            }
            if (way == 1) {
                return "(" + condition(random, depth + 1) + ")";
            }
            return sum(random, depth) + "=<>".charAt(random.nextInt(3)) + sum(random, depth);
        }

        static String sum(Random random, int depth) {
            StringBuilder text = new StringBuilder(atom(random, depth));
            while (random.nextInt(3) == 0) {
                text.append("+-*/*/".charAt(random.nextInt(6))).append(atom(random, depth));
            }
            return text.toString();
        }

        static String atom(Random random, int depth) {
            if (depth <= 6 && random.nextInt(6) == 0) {
                return "[" + sum(random, depth + 1) + "]";
            }
            if (random.nextInt(3) == 0) {
                int most = new int[] {10, 100, 1000, 10000}[random.nextInt(4)];
                return Integer.toString(random.nextInt(most));
            }
            return "" + "fpslw".charAt(random.nextInt(5));
        }

        static String spoil(String text, Random random) {
            StringBuilder spoilt = new StringBuilder(text);
            String signs = "pbwslfkty:?!()[]|&=<>+-*/; 0123456789x";
            for (int i = random.nextInt(4); i > 0 && spoilt.length() > 0; i--) {
                int at = random.nextInt(spoilt.length());
                char sign = random.nextInt(20) == 0 ? (char) (1 + random.nextInt(255)) : signs.charAt(random.nextInt(signs.length()));
                int way = random.nextInt(5);
                if (way == 0) {
                    spoilt.setCharAt(at, sign);
                } else if (way == 1) {
                    spoilt.deleteCharAt(at);
                } else if (way == 2) {
                    spoilt.insert(at, sign);
                } else if (way == 3) {
                    spoilt.insert(at, spoilt.charAt(at));
                } else {
                    spoilt.insert(at, ' ');
                }
            }
            if (random.nextInt(6) == 0) {
                spoilt.setLength(random.nextInt(spoilt.length() + 1));
            }
            while (random.nextInt(3) == 0) {
                spoilt.append(new String[] {" ", ";", "p", "b", ";p", "; p ", ";b", " ; b", "y:1", ";y:f", " 1", "x"}[random.nextInt(12)]);
            }
            return spoilt.length() > 160 ? spoilt.substring(0, 160) : spoilt.toString();
        }

        static String noise(Random random) {
            String signs = random.nextBoolean() ? "p;bkt019 w" : "y:f=1?[(!)] ;p";
            String[] starts = {"", "p;p", "y:", "p;p;p;p;p;p", "b;p;p;p;p;p;p", "y:f=1?", "y:!!!!!", "y:[[[[[", "y:(([!", "y:1;y:p>"};
            StringBuilder text = new StringBuilder(starts[random.nextInt(starts.length)]);
            for (int i = random.nextInt(14); i > 0; i--) {
                text.append(signs.charAt(random.nextInt(signs.length())));
            }
            return text.toString();
        }
    }

    /** Faults: all stacks of what may still come, sign by sign. */
    static final class Grammar {
        // A stack is a string of symbols, the next first. Big letters with a depth digit are rules:
        // A worth, L more clauses, C condition, D more truths, T truth, V more units, U unit, K the rest of
        // a comparison, S sum, Q more terms, M term, R more atoms, O atom; N is a number.
        static int worthFault(String text) {
            Set<String> stacks = new LinkedHashSet<>(List.of("A0"));
            int at = 0;
            while (at < text.length()) {
                char sign = text.charAt(at);
                if (sign == ' ') {
                    at++;
                    continue;
                }
                boolean digit = sign >= '0' && sign <= '9';
                boolean ruleLike = sign >= 'A' && sign <= 'Z';
                stacks = step(open(stacks), digit ? 'N' : ruleLike ? '\0' : sign);
                if (stacks.isEmpty()) {
                    return at;
                }
                int from = at;
                at++;
                while (digit && at < text.length() && text.charAt(at) >= '0' && text.charAt(at) <= '9') {
                    if (at - from == 4) {
                        return at;
                    }
                    at++;
                }
            }
            return open(stacks).contains("") ? -1 : text.length();
        }

        static Set<String> step(Set<String> stacks, char sign) {
            Set<String> next = new LinkedHashSet<>();
            for (String stack : stacks) {
                if (!stack.isEmpty() && stack.charAt(0) == sign) {
                    next.add(stack.substring(1));
                }
            }
            return next;
        }

        static Set<String> open(Set<String> stacks) {
            Set<String> opened = new LinkedHashSet<>();
            List<String> todo = new ArrayList<>(stacks);
            while (!todo.isEmpty()) {
                String stack = todo.remove(todo.size() - 1);
                if (stack.isEmpty() || "ALCDTVUKSQMRO".indexOf(stack.charAt(0)) < 0) {
                    opened.add(stack);
                    continue;
                }
                int depth = stack.charAt(1) - '0';
                for (String way : ways(stack.charAt(0), depth)) {
                    todo.add(way + stack.substring(2));
                }
            }
            return opened;
        }

        static List<String> ways(char rule, int d) {
            int e = d + 1;
            boolean deep = d >= 6;
            switch (rule) {
                case 'A': return List.of("y:S0L0", "y:C0?S0L0");
                case 'L': return List.of("", ";A0");
                case 'C': return List.of("T" + d + "D" + d);
                case 'D': return List.of("", "|C" + d);
                case 'T': return List.of("U" + d + "V" + d);
                case 'V': return List.of("", "&T" + d);
                case 'U': return deep ? List.of("S" + d + "K" + d) : List.of("S" + d + "K" + d, "!U" + e, "(C" + e + ")");
                case 'K': return List.of("=S" + d, "<S" + d, ">S" + d);
                case 'S': return List.of("M" + d + "Q" + d);
                case 'Q': return List.of("", "+S" + d, "-S" + d);
                case 'M': return List.of("O" + d + "R" + d);
                case 'R': return List.of("", "*M" + d, "/M" + d);
                default: return deep ? List.of("N", "f", "p", "s", "l", "w") : List.of("N", "f", "p", "s", "l", "w", "[S" + e + "]");
            }
        }

        static int lakeFault(String text) {
            int places = 0;
            int lines = 0;
            int weights = 0;
            String wanted = "clause";
            String letters = "";
            String there = "";
            boolean lineClause = false;
            char letter = ' ';
            boolean weightTold = true;
            int at = 0;
            while (at < text.length()) {
                char sign = text.charAt(at);
                if (sign == ' ') {
                    at++;
                } else if (wanted.equals("clause")) {
                    if (!(sign == 'p' && places < 6) && !(sign == 'b' && lines < 1)) {
                        return at;
                    }
                    lineClause = sign == 'b';
                    places += lineClause ? 0 : 1;
                    lines += lineClause ? 1 : 0;
                    weights += lineClause ? 0 : 1;
                    letters = lineClause ? "kt" : "wslf";
                    there = "";
                    wanted = "item";
                    at++;
                } else if (wanted.equals("item")) {
                    if (sign == ';') {
                        wanted = "clause";
                    } else if (letters.indexOf(sign) >= 0 && there.indexOf(sign) < 0) {
                        there += sign;
                        letter = sign;
                        wanted = "number";
                    } else {
                        return at;
                    }
                    at++;
                } else {
                    int to = at;
                    while (to < text.length() && Character.digit(text.charAt(to), 10) >= 0 && text.charAt(to) < 128) {
                        to++;
                    }
                    if (to == at) {
                        return at;
                    }
                    if (to - at > 2) {
                        return at + 2;
                    }
                    int number = Integer.parseInt(text.substring(at, to));
                    int least = letter == 'k' ? 1 : 0;
                    int most = letter == 'w' ? 9 : letter == 'k' ? 4 : letter == 's' || letter == 'l' ? 3 : 99;
                    if (number < least || number > most) {
                        return to - 1;
                    }
                    weights += letter == 'w' ? number - 1 : 0;
                    wanted = "item";
                    at = to;
                }
            }
            return wanted.equals("item") && places >= 2 && weights > 0 ? -1 : text.length();
        }
    }

    /** What a WORTH is for a PLACE: a text is cut at its last sign of the lowest rank. */
    static final class Values {
        static int of(String text, int[] fpslw) {
            for (String clause : text.replace(" ", "").split(";")) {
                String body = clause.substring(2);
                int ask = body.indexOf('?');
                if (ask < 0 || holds(body.substring(0, ask), fpslw)) {
                    return Math.max(0, Math.min(999, sum(body.substring(ask + 1), fpslw)));
                }
            }
            return 0;
        }

        static int lastOutside(String text, String signs) {
            int depth = 0;
            for (int i = text.length() - 1; i >= 0; i--) {
                char sign = text.charAt(i);
                depth += sign == ')' || sign == ']' ? 1 : sign == '(' || sign == '[' ? -1 : 0;
                if (depth == 0 && signs.indexOf(sign) >= 0) {
                    return i;
                }
            }
            return -1;
        }

        static boolean holds(String text, int[] fpslw) {
            int or = lastOutside(text, "|");
            if (or >= 0) {
                return holds(text.substring(0, or), fpslw) || holds(text.substring(or + 1), fpslw);
            }
            int and = lastOutside(text, "&");
            if (and >= 0) {
                return holds(text.substring(0, and), fpslw) && holds(text.substring(and + 1), fpslw);
            }
            if (text.startsWith("!")) {
                return !holds(text.substring(1), fpslw);
            }
            if (text.startsWith("(")) {
                return holds(text.substring(1, text.length() - 1), fpslw);
            }
            int compare = lastOutside(text, "=<>");
            int left = sum(text.substring(0, compare), fpslw);
            int right = sum(text.substring(compare + 1), fpslw);
            char sign = text.charAt(compare);
            return sign == '=' ? left == right : sign == '<' ? left < right : left > right;
        }

        static int sum(String text, int[] fpslw) {
            int add = lastOutside(text, "+-");
            int by = add >= 0 ? add : lastOutside(text, "*/");
            if (by >= 0) {
                long left = sum(text.substring(0, by), fpslw);
                long right = sum(text.substring(by + 1), fpslw);
                char sign = text.charAt(by);
                long value = sign == '+' ? left + right : sign == '-' ? left - right
                    : sign == '*' ? left * right : right == 0 ? 0 : left / right;
                return (int) Math.max(-1000000, Math.min(1000000, value));
            }
            if (text.startsWith("[")) {
                return sum(text.substring(1, text.length() - 1), fpslw);
            }
            int letter = "fpslw".indexOf(text.charAt(0));
            return letter >= 0 ? fpslw[letter] : Integer.parseInt(text);
        }
    }

    /** The document, as slow as can be. */
    static final class Model {
        StringBuilder tape = new StringBuilder();
        List<String> worths = new ArrayList<>();
        int holding = -1;
        long draws = 0;
        int[][] places = new int[0][];
        int[] values = new int[0];
        int signs = 0;
        int lost = 0;
        boolean fog;
        boolean thunder;
        boolean deafLearns;
        boolean blindLearns;
        int[] tugs = new int[4];
        int[][] throwing = new int[4][4];
        int[][] tugShelves = new int[4][];
        int[][][] throwShelves = new int[4][][];
        List<int[]> seen = new ArrayList<>();
        List<Day> days = new ArrayList<>();
        Model kept;

        static final class Day {
            int where;
            int came;
            int caught;
            int[] tugs;
            int[][] throwing;
            long draws;
        }

        static int[][] copyOf(int[][] rows) {
            int[][] copy = new int[rows.length][];
            for (int i = 0; i < rows.length; i++) {
                copy[i] = rows[i].clone();
            }
            return copy;
        }

        boolean none() {
            return places.length == 0;
        }

        boolean isPlace(int place) {
            return place >= 0 && place < places.length;
        }

        boolean isCast(int look, int sign) {
            return !none() && look >= 0 && look < 4 && sign >= 0 && sign < signs;
        }

        int worthOf(int place) {
            return values[place];
        }

        void value() {
            values = new int[places.length];
            for (int place = 0; place < places.length; place++) {
                int[] p = places[place];
                values[place] = holding < 0 ? p[3] : Values.of(worths.get(holding), new int[] {p[3], place, p[1], p[2], p[0]});
            }
        }

        int weights() {
            int sum = 0;
            for (int[] place : places) {
                sum += place[0];
            }
            return sum;
        }

        int heard(int place, boolean inThunder) {
            return inThunder ? 0 : places[place][1];
        }

        int looks(int place, boolean inFog) {
            return inFog ? 0 : places[place][2];
        }

        // All that can happen at a PLACE by TUGS: {SIGN that comes, how often of 100}.
        int[][] comes(int sign) {
            return sign == 0 ? new int[][] {{0, 100}} : new int[][] {{sign, 100 - lost}, {0, lost}};
        }

        long above(int[] t, int[][] h, boolean inFog, boolean inThunder) {
            long sum = 0;
            for (int place = 0; place < places.length; place++) {
                for (int[] come : comes(t[heard(place, inThunder)])) {
                    if (h[looks(place, inFog)][come[0]] == place) {
                        sum += (long) places[place][0] * come[1] * worthOf(place);
                    }
                }
            }
            return sum;
        }

        int[][] answerOf(int[] t, boolean inFog, boolean inThunder) {
            int[][] best = new int[4][4];
            for (int look = 0; look < 4; look++) {
                for (int sign = 0; sign < 4; sign++) {
                    long most = -1;
                    int[][] tried = new int[4][4];
                    for (int[] row : tried) {
                        Arrays.fill(row, -1);
                    }
                    for (int place = 0; place < places.length; place++) {
                        tried[look][sign] = place;
                        long mean = above(t, tried, inFog, inThunder);
                        if (mean > most) {
                            most = mean;
                            best[look][sign] = place;
                        }
                    }
                }
            }
            return best;
        }

        static int[] row(int number, int base) {
            int[] row = new int[4];
            for (int i = 3; i >= 0; i--) {
                row[i] = number % base;
                number /= base;
            }
            return row;
        }

        static int digits(int[] row) {
            return 1000 * row[0] + 100 * row[1] + 10 * row[2] + row[3];
        }

        static int power(int base, int n) {
            int power = 1;
            for (int i = 0; i < n; i++) {
                power *= base;
            }
            return power;
        }

        // {digits, MEAN above}
        long[] tongueOf(int k, boolean inFog, boolean inThunder) {
            long[] best = {-1, -1};
            for (int i = 0; i < power(k, 4); i++) {
                int[] t = row(i, k);
                long mean = above(t, answerOf(t, inFog, inThunder), inFog, inThunder);
                if (mean > best[1]) {
                    best = new long[] {digits(t), mean};
                }
            }
            return best;
        }

        List<int[]> settledRows() {
            List<int[]> rows = new ArrayList<>();
            for (int i = 0; i < power(signs, 4); i++) {
                int[] t = row(i, signs);
                int[][] h = answerOf(t, fog, thunder);
                long mean = above(t, h, fog, thunder);
                boolean settled = true;
                for (int j = 0; j < power(signs, 4) && settled; j++) {
                    settled = above(row(j, signs), h, fog, thunder) <= mean;
                }
                if (settled) {
                    rows.add(t);
                }
            }
            return rows;
        }

        static long plain(long above, long below, int part) {
            for (long by = 2; by <= above && by <= below; by++) {
                while (above % by == 0 && below % by == 0) {
                    above /= by;
                    below /= by;
                }
            }
            return part == 0 ? above : above == 0 ? 1 : below;
        }

        static boolean part(int part) {
            return part == 0 || part == 1;
        }

        static int ith(List<Integer> list, int i) {
            return i == -1 ? list.size() : i >= 0 && i < list.size() ? list.get(i) : -1;
        }

        // ---- the face

        int feed(int... five) {
            StringBuilder more = new StringBuilder();
            for (int number : five) {
                for (int i = 3; i >= 0; i--) {
                    int sign = (int) (((number & 0xFFFFFFFFL) / power(256, i)) % 256);
                    if (sign != 0) {
                        more.append((char) sign);
                    }
                }
            }
            if (tape.length() + more.length() > 160) {
                return -1;
            }
            tape.append(more);
            return tape.length();
        }

        boolean end(int n) {
            if (n < 0 || n > tape.length()) {
                return false;
            }
            tape.setLength(n);
            return true;
        }

        int fault(int sort) {
            return sort == 0 ? Grammar.lakeFault(tape.toString()) : sort == 1 ? Grammar.worthFault(tape.toString()) : -2;
        }

        int text(int sort) {
            if (sort < 0 || sort > 1 || fault(sort) != -1 || sort == 1 && worths.size() == 4) {
                return -1;
            }
            String told = tape.toString();
            tape.setLength(0);
            if (sort == 1) {
                worths.add(told);
                return worths.size() - 1;
            }
            takeLake(told.replace(" ", ""));
            return places.length;
        }

        void takeLake(String told) {
            List<int[]> rows = new ArrayList<>();
            signs = 2;
            lost = 0;
            for (String clause : told.split(";")) {
                int[] values = clause.startsWith("p") ? new int[] {1, 0, 0, 10} : new int[] {2, 0};
                String letters = clause.startsWith("p") ? "wslf" : "kt";
                for (String item : clause.substring(1).split("(?=[a-z])")) {
                    if (!item.isEmpty()) {
                        values[letters.indexOf(item.charAt(0))] = Integer.parseInt(item.substring(1));
                    }
                }
                if (values.length == 4) {
                    rows.add(values);
                } else {
                    signs = values[0];
                    lost = values[1];
                }
            }
            places = rows.toArray(new int[0][]);
            value();
            fog = thunder = deafLearns = blindLearns = false;
            tugs = new int[4];
            throwing = new int[4][4];
            tugShelves = new int[4][];
            throwShelves = new int[4][][];
            seen = new ArrayList<>();
            days = new ArrayList<>();
            kept = null;
        }

        int place(int place, int what) {
            if (!isPlace(place) || what < 0 || what > 4) {
                throw new NoSuchElementException();
            }
            return what == 4 ? worthOf(place) : places[place][what];
        }

        boolean worth(int worth) {
            if (worth < -1 || worth >= worths.size()) {
                return false;
            }
            holding = worth;
            value();
            return true;
        }

        boolean set(int what, boolean is) {
            boolean[] flags = {fog, thunder, deafLearns, blindLearns};
            if (none() || what < 0 || what > 3 || flags[what] == is) {
                return false;
            }
            flags[what] = is;
            fog = flags[0];
            thunder = flags[1];
            deafLearns = flags[2];
            blindLearns = flags[3];
            return true;
        }

        boolean tugs(int told) {
            if (none() || told < 0 || told > 9999 || Arrays.stream(row(told, 10)).anyMatch(sign -> sign >= signs)) {
                return false;
            }
            tugs = row(told, 10);
            return true;
        }

        boolean throwTo(int look, int sign, int place) {
            if (!isCast(look, sign) || !isPlace(place)) {
                return false;
            }
            throwing[look][sign] = place;
            return true;
        }

        int thrown(int look, int sign) {
            return isCast(look, sign) ? throwing[look][sign] : -1;
        }

        boolean answer() {
            if (none()) {
                return false;
            }
            throwing = answerOf(tugs, fog, thunder);
            return true;
        }

        int answerTo(int look, int sign) {
            return isCast(look, sign) ? answerOf(tugs, fog, thunder)[look][sign] : -1;
        }

        int mean(int part) {
            return none() || !part(part) ? -1 : (int) plain(above(tugs, throwing, fog, thunder), 100L * weights(), part);
        }

        int tongue(int k, int what) {
            if (none() || k < 1 || k > 4 || what < 0 || what > 2) {
                return -1;
            }
            long[] best = tongueOf(k, fog, thunder);
            return (int) (what == 0 ? best[0] : plain(best[1], 100L * weights(), what - 1));
        }

        int sense(boolean inFog, boolean inThunder, int part) {
            return none() || !part(part) ? -1 : (int) plain(tongueOf(signs, inFog, inThunder)[1], 100L * weights(), part);
        }

        int settled(int i) {
            if (none()) {
                return -1;
            }
            List<Integer> rows = new ArrayList<>();
            for (int[] t : settledRows()) {
                rows.add(digits(t));
            }
            return ith(rows, i);
        }

        int worst(int part) {
            if (none() || !part(part)) {
                return -1;
            }
            long least = Long.MAX_VALUE;
            for (int[] t : settledRows()) {
                least = Math.min(least, above(t, answerOf(t, fog, thunder), fog, thunder));
            }
            return (int) plain(least, 100L * weights(), part);
        }

        static int apart(int one, int other) {
            int bits = 0;
            for (int tug = 0; tug < 8; tug++) {
                bits += (one >> tug) % 2 == (other >> tug) % 2 ? 0 : 1;
            }
            return bits;
        }

        // The first m words; ahead of them how many tugs they have.
        static List<Integer> codeOf(int m, int e) {
            if (m < 1 || m > 16 || e < 0 || e > 3) {
                return null;
            }
            for (int n = 1; n <= 8; n++) {
                List<Integer> words = new ArrayList<>();
                for (int word = 0; word < power(2, n); word++) {
                    boolean far = true;
                    for (int other : words) {
                        far = far && apart(word, other) > e;
                    }
                    if (far) {
                        words.add(word);
                    }
                }
                if (words.size() >= m) {
                    List<Integer> code = new ArrayList<>(words.subList(0, m));
                    code.add(0, n);
                    return code;
                }
            }
            return null;
        }

        int code(int m, int e, int i) {
            List<Integer> code = codeOf(m, e);
            return code == null || i < -1 || i >= m ? -1 : code.get(i + 1);
        }

        int read(int m, int e, int word) {
            List<Integer> code = codeOf(m, e);
            if (code == null || word < 0 || word >= power(2, code.get(0))) {
                return -1;
            }
            for (int far = 0; far <= 8; far++) {
                List<Integer> near = new ArrayList<>();
                for (int i = 0; i < m; i++) {
                    if (apart(code.get(i + 1), word) == far) {
                        near.add(i);
                    }
                }
                if (!near.isEmpty()) {
                    return near.size() == 1 ? near.get(0) : -1;
                }
            }
            return -1;
        }

        int spread(int m, int e) {
            List<Integer> code = codeOf(m, e);
            TreeSet<Integer> all = new TreeSet<>();
            for (int i = 0; code != null && i < m; i++) {
                for (int j = 0; j < m; j++) {
                    if (i != j) {
                        all.add(apart(code.get(i + 1), code.get(j + 1)));
                    }
                }
            }
            return all.isEmpty() ? -1 : all.first();
        }

        boolean shelve(boolean deaf, int shelf) {
            if (none() || shelf < 0 || shelf > 3) {
                return false;
            }
            if (deaf) {
                throwShelves[shelf] = copyOf(throwing);
            } else {
                tugShelves[shelf] = tugs.clone();
            }
            return true;
        }

        boolean full(int shelf) {
            return shelf >= 0 && shelf < 4 && tugShelves[shelf] != null;
        }

        boolean fullThrows(int shelf) {
            return shelf >= 0 && shelf < 4 && throwShelves[shelf] != null;
        }

        long fitOf(int t, int h) {
            return above(tugShelves[t], throwShelves[h], fog, thunder);
        }

        int fit(int t, int h, int part) {
            return full(t) && fullThrows(h) && part(part) ? (int) plain(fitOf(t, h), 100L * weights(), part) : -1;
        }

        int pair(int wanted) {
            int[] pairs = {-1, -1, -1, -1};
            boolean[] taken = new boolean[4];
            while (true) {
                long most = -1;
                int one = -1;
                int other = -1;
                for (int t = 0; t < 4; t++) {
                    for (int h = 0; h < 4; h++) {
                        if (full(t) && fullThrows(h) && pairs[t] < 0 && !taken[h] && fitOf(t, h) > most) {
                            most = fitOf(t, h);
                            one = t;
                            other = h;
                        }
                    }
                }
                if (one < 0) {
                    return wanted < 0 || wanted > 3 ? -1 : pairs[wanted];
                }
                pairs[one] = other;
                taken[other] = true;
            }
        }

        int leavers(int told, int i) {
            if (none() || told < 0 || told > 9999) {
                return -1;
            }
            int[] with = row(told, 10);
            Set<Integer> used = new TreeSet<>();
            for (int t = 0; t < 4; t++) {
                if (with[t] != 9 && (!full(t) || !fullThrows(with[t]) || !used.add(with[t]))) {
                    return -1;
                }
            }
            List<Integer> pairs = new ArrayList<>();
            for (int t = 0; t < 4; t++) {
                for (int h = 0; h < 4; h++) {
                    if (full(t) && fullThrows(h) && with[t] != h) {
                        long own = with[t] == 9 ? -1 : fitOf(t, with[t]);
                        long others = -1;
                        for (int u = 0; u < 4; u++) {
                            others = with[u] == h ? fitOf(u, h) : others;
                        }
                        if (fitOf(t, h) > own && fitOf(t, h) > others) {
                            pairs.add(10 * t + h);
                        }
                    }
                }
            }
            return ith(pairs, i);
        }

        boolean boat(int code) {
            return code >= 0 && full(code / 10) && fullThrows(code % 10);
        }

        long gain(int one, int other) {
            long sum = 0;
            for (int place = 0; place < places.length; place++) {
                int heard = heard(place, thunder);
                int look = looks(place, fog);
                for (int[] a : comes(tugShelves[one / 10][heard])) {
                    for (int[] b : comes(tugShelves[other / 10][heard])) {
                        boolean mine = throwShelves[one % 10][look][a[0]] == place;
                        boolean others = throwShelves[other % 10][look][b[0]] == place;
                        int had = mine ? others ? worthOf(place) / 2 : worthOf(place) : 0;
                        sum += (long) places[place][0] * a[1] * b[1] * had;
                    }
                }
            }
            return sum;
        }

        long crossed(int one, int other, int part) {
            return boat(one) && boat(other) && part(part) ? plainFast(gain(one, other), 10000L * weights(), part) : -1;
        }

        static long plainFast(long above, long below, int part) {
            long common = new java.math.BigInteger(Long.toString(above)).gcd(new java.math.BigInteger(Long.toString(below))).longValue();
            return part == 0 ? above / common : below / common;
        }

        int rests(int one, int other, int i) {
            if (!full(one) || !full(other)) {
                return -1;
            }
            List<Integer> rests = new ArrayList<>();
            for (int a = 0; a < 4; a++) {
                for (int b = 0; b < 4; b++) {
                    if (fullThrows(a) && fullThrows(b)) {
                        boolean rest = true;
                        for (int c = 0; c < 4; c++) {
                            if (fullThrows(c)) {
                                rest = rest && gain(10 * one + c, 10 * other + b) <= gain(10 * one + a, 10 * other + b);
                                rest = rest && gain(10 * other + c, 10 * one + a) <= gain(10 * other + b, 10 * one + a);
                            }
                        }
                        if (rest) {
                            rests.add(10 * a + b);
                        }
                    }
                }
            }
            return ith(rests, i);
        }

        int see(int shoal, int thrown) {
            if (!isPlace(shoal) || !isPlace(thrown) || seen.size() == 20) {
                return -1;
            }
            seen.add(new int[] {shoal, thrown});
            return seen.size();
        }

        int meant(int i) {
            if (none()) {
                return -1;
            }
            List<Integer> rows = new ArrayList<>();
            for (int j = 0; j < power(signs, 4); j++) {
                int[] t = row(j, signs);
                boolean so = true;
                for (int[] one : seen) {
                    so = so && throwing[looks(one[0], fog)][t[heard(one[0], thunder)]] == one[1];
                }
                if (so) {
                    rows.add(digits(t));
                }
            }
            return ith(rows, i);
        }

        boolean seed(long v) {
            draws = v;
            return true;
        }

        int draw(int k) {
            draws = draws * 6364136223846793005L + 1442695040888963407L;
            return (int) Long.remainderUnsigned(draws >>> 33, k);
        }

        int day() {
            if (none() || days.size() == 40) {
                return -1;
            }
            Day day = new Day();
            day.tugs = tugs.clone();
            day.throwing = copyOf(throwing);
            day.draws = draws;
            List<Integer> urn = new ArrayList<>();
            for (int place = 0; place < places.length; place++) {
                for (int i = 0; i < places[place][0]; i++) {
                    urn.add(place);
                }
            }
            day.where = urn.get(draw(urn.size()));
            int heard = heard(day.where, thunder);
            day.came = tugs[heard];
            if (day.came != 0 && draw(100) < lost) {
                day.came = 0;
            }
            int look = looks(day.where, fog);
            if (throwing[look][day.came] == day.where) {
                day.caught = worthOf(day.where);
            } else {
                if (deafLearns) {
                    throwing[look][day.came] = day.where;
                }
                if (blindLearns) {
                    tugs[heard] = (tugs[heard] + 1) % signs;
                }
            }
            days.add(day);
            return day.caught;
        }

        int was(int day, int what) {
            if (day < 0 || day >= days.size() || what < 0 || what > 2) {
                return -1;
            }
            Day then = days.get(day);
            return new int[] {then.where, then.came, then.caught}[what];
        }

        int undo() {
            if (days.isEmpty()) {
                return -1;
            }
            Day last = days.remove(days.size() - 1);
            tugs = last.tugs.clone();
            throwing = copyOf(last.throwing);
            draws = last.draws;
            return days.size();
        }

        boolean wet(int told) {
            if (none() || told < 0 || told > 99 || told == lost) {
                return false;
            }
            lost = told;
            return true;
        }

        boolean alike(int who, int place, int sound, int look) {
            return (who == 1 || heard(place, thunder) == sound) && (who == 0 || looks(place, fog) == look);
        }

        int alone(int who, int sound, int look) {
            if (none() || who < 0 || who > 2 || sound < 0 || sound > 3 || look < 0 || look > 3) {
                return -1;
            }
            int best = 0;
            long most = 0;
            for (int place = 0; place < places.length; place++) {
                long stake = alike(who, place, sound, look) ? (long) places[place][0] * worthOf(place) : 0;
                if (stake > most) {
                    most = stake;
                    best = place;
                }
            }
            return best;
        }

        int lone(int who, int part) {
            if (none() || who < 0 || who > 2 || !part(part)) {
                return -1;
            }
            long sum = 0;
            for (int place = 0; place < places.length; place++) {
                if (alone(who, heard(place, thunder), looks(place, fog)) == place) {
                    sum += (long) places[place][0] * worthOf(place);
                }
            }
            return (int) plain(100 * sum, 100L * weights(), part);
        }

        // By each tug on its own: all that can come of a WORD.
        long chance(int n, int word, int came) {
            long chance = 1;
            for (int tug = 0; tug < n; tug++) {
                boolean isLong = (word >> tug) % 2 == 1;
                boolean comesLong = (came >> tug) % 2 == 1;
                chance *= isLong ? comesLong ? 100 - lost : lost : comesLong ? 0 : 100;
            }
            return chance;
        }

        long knotsAbove(int n, int[] row, long[] stakes) {
            long sum = 0;
            for (int look = 0; look < 4; look++) {
                for (int came = 0; came < power(2, n); came++) {
                    long most = 0;
                    for (int place = 0; place < places.length; place++) {
                        if (looks(place, fog) == look) {
                            most = Math.max(most, stakes[place] * chance(n, row[heard(place, thunder)], came));
                        }
                    }
                    sum += most;
                }
            }
            return sum;
        }

        long[] stakes() {
            long[] stakes = new long[places.length];
            for (int place = 0; place < places.length; place++) {
                stakes[place] = (long) places[place][0] * worthOf(place);
            }
            return stakes;
        }

        long knots(int n, int told, int part) {
            if (none() || n < 1 || n > 3 || told < 0 || told > 9999 || !part(part)) {
                return -1;
            }
            for (int word : row(told, 10)) {
                if (word >= power(2, n)) {
                    return -1;
                }
            }
            return plainFast(knotsAbove(n, row(told, 10), stakes()), (long) power(100, n) * weights(), part);
        }

        long bestKnots(int n, int what) {
            if (none() || n < 1 || n > 3 || what < 0 || what > 2) {
                return -1;
            }
            long most = -1;
            int best = 0;
            long[] stakes = stakes();
            for (int i = 0; i < power(power(2, n), 4); i++) {
                int[] row = row(i, power(2, n));
                long mean = knotsAbove(n, row, stakes);
                if (mean > most) {
                    most = mean;
                    best = digits(row);
                }
            }
            return what == 0 ? best : plainFast(most, (long) power(100, n) * weights(), what - 1);
        }

        long weather(int foggy, int thundery, int part) {
            if (none() || foggy < 0 || foggy > 100 || thundery < 0 || thundery > 100 || !part(part)) {
                return -1;
            }
            long sum = 0;
            for (int day = 0; day < 10000; day++) {
                sum += above(tugs, throwing, day / 100 < foggy, day % 100 < thundery);
            }
            return plainFast(sum, 1000000L * weights(), part);
        }

        int skill(int what, int part) {
            if (none() || what < 0 || what > 2 || !part(part)) {
                return -1000000;
            }
            boolean[][] weathers = {{true, false}, {false, true}, {true, true}};
            long with = tongueOf(signs, weathers[what][0], weathers[what][1])[1];
            return (int) plain(tongueOf(signs, false, false)[1] - with, 100L * weights(), part);
        }

        int cases(int what) {
            if (none() || what < 0 || what > 1) {
                return -1;
            }
            int bits = 0;
            for (int place = 0; place < places.length; place++) {
                int sign = tugs[heard(place, thunder)];
                int[] row = throwing[looks(place, fog)];
                boolean kept = row[sign] == place;
                boolean whenLost = row[0] == place;
                boolean chancy = lost > 0 && sign > 0 && kept != whenLost;
                boolean always = kept && !chancy;
                if (places[place][0] > 0 && (what == 0 ? always : chancy)) {
                    bits += power(2, place);
                }
            }
            return bits;
        }

        int mixed(int i) {
            if (none()) {
                return -1;
            }
            TreeSet<Integer> once = new TreeSet<>();
            TreeSet<Integer> more = new TreeSet<>();
            for (int place = 0; place < places.length; place++) {
                int code = 10 * heard(place, thunder) + looks(place, fog);
                if (places[place][0] > 0 && !once.add(code)) {
                    more.add(code);
                }
            }
            return ith(new ArrayList<>(more), i);
        }

        int hoard(int place, int what) {
            if (!isPlace(place) || what < 0 || what > 1) {
                return -1;
            }
            return days.stream().filter(day -> day.where == place).mapToInt(day -> what == 0 ? day.caught : 1).sum();
        }

        int said(int sound, int sign) {
            if (none() || sound < 0 || sound > 3 || sign < 0 || sign > 3) {
                return -1;
            }
            return (int) days.stream().filter(day -> places[day.where][1] == sound && day.came == sign).count();
        }

        int run() {
            if (none()) {
                return -1;
            }
            StringBuilder all = new StringBuilder();
            for (Day day : days) {
                all.append(day.caught == 0 ? 'o' : 'x');
            }
            int most = 0;
            while (all.indexOf("o".repeat(most + 1)) >= 0) {
                most++;
            }
            return most;
        }

        int copy() {
            if (none()) {
                return -1;
            }
            int[][] best = answerOf(tugs, fog, thunder);
            int same = 0;
            for (int look = 0; look < 4; look++) {
                for (int sign = 0; sign < signs; sign++) {
                    same += best[look][sign] == throwing[look][sign] ? 1 : 0;
                }
            }
            return same;
        }

        int image() {
            if (none()) {
                return -1;
            }
            kept = new Model();
            give(this, kept);
            return days.size();
        }

        int back() {
            if (kept == null) {
                return -1;
            }
            give(kept, this);
            return days.size();
        }

        static void give(Model from, Model to) {
            to.tugs = from.tugs.clone();
            to.throwing = copyOf(from.throwing);
            to.fog = from.fog;
            to.thunder = from.thunder;
            to.lost = from.lost;
            to.draws = from.draws;
            to.days = new ArrayList<>(from.days);
        }

        int count(int what) {
            int caught = days.stream().mapToInt(day -> day.caught).sum();
            int[] all = {places.length, signs, lost, worths.size(), tape.length(), digits(tugs), fog ? 1 : 0, thunder ? 1 : 0,
                deafLearns ? 1 : 0, seen.size(), days.size(), caught, holding, blindLearns ? 1 : 0};
            return what >= 0 && what < all.length ? all[what] : -1000000;
        }
    }

    /** One run: an object, a model, and calls by chance. */
    static final class Run {
        final Random random;
        final long seed;
        final TugLake lake = new TugLake();
        final Model model = new Model();
        int asked = 0;

        Run(long seed) {
            this.seed = seed;
            this.random = new Random(seed);
        }

        void go() {
            // Some calls come in a row of at most twelve, and an object is good for 512.
            for (int step = 0; step < 2000 && asked <= 500 && wrong < 20; step++) {
                int way = random.nextInt(60);
                if (step < 30 && random.nextInt(10) == 0 || way == 0 && random.nextInt(4) == 0) {
                    tell();
                } else if (way < 12) {
                    change();
                } else if (way < 20) {
                    days();
                } else {
                    ask();
                }
            }
        }

        void is(String call, long got, long want) {
            asked++;
            due("run " + seed + ": " + call, got, want);
        }

        void is(String call, boolean got, boolean want) {
            is(call, got ? 1 : 0, want ? 1 : 0);
        }

        // Mostly what is there, at times just outside, at times far from it.
        int some(int below) {
            int way = random.nextInt(40);
            if (way == 0) {
                return -1;
            }
            if (way == 1) {
                return below;
            }
            if (way == 2) {
                return new int[] {Integer.MIN_VALUE, Integer.MAX_VALUE, -2, 1000000, -1000000, 64}[random.nextInt(6)];
            }
            return random.nextInt(Math.max(1, below));
        }

        void tell() {
            boolean isLake = random.nextInt(5) > 1;
            String text = isLake ? Texts.lake(random) : Texts.worth(random);
            if (random.nextInt(4) == 0) {
                text = Texts.spoil(text, random);
            }
            if (random.nextInt(4) > 0) {
                is("end(0)", lake.end(0), model.end(0));
            }
            for (int from = 0; from < text.length(); from += 20) {
                int[] f = Texts.chunk(text, from);
                is("feed of " + text, lake.feed(f[0], f[1], f[2], f[3], f[4]), model.feed(f));
            }
            int n = some(model.tape.length() + 20);
            if (random.nextInt(5) == 0) {
                is("end(" + n + ")", lake.end(n), model.end(n));
            }
            int sort = random.nextInt(10) == 0 ? some(3) : isLake ? 0 : 1;
            is("fault(" + sort + ") of " + text, lake.fault(sort), model.fault(sort));
            is("text(" + sort + ")", lake.text(sort), model.text(sort));
        }

        void change() {
            int what = some(4);
            boolean is = random.nextBoolean();
            int look = some(4);
            int sign = some(model.signs);
            int place = some(model.places.length);
            int row = row(model.signs);
            int lost = random.nextBoolean() ? some(100) : some(20);
            int worth = some(model.worths.size());
            switch (random.nextInt(8)) {
                case 0: is("set(" + what + ", " + is + ")", lake.set(what, is), model.set(what, is)); break;
                case 1: is("tugs(" + row + ")", lake.tugs(row), model.tugs(row)); break;
                case 2: is("throwTo", lake.throwTo(look, sign, place), model.throwTo(look, sign, place)); break;
                case 3: is("answer()", lake.answer(), model.answer()); break;
                case 4: is("wet(" + lost + ")", lake.wet(lost), model.wet(lost)); break;
                case 5: is("worth(" + worth + ")", lake.worth(worth), model.worth(worth)); break;
                default: is("shelve(" + is + ", " + what + ")", lake.shelve(is, what), model.shelve(is, what));
            }
        }

        int row(int below) {
            int row = 0;
            for (int i = 0; i < 4; i++) {
                row = 10 * row + random.nextInt(Math.max(1, below));
            }
            int way = random.nextInt(30);
            return way == 0 ? -row : way == 1 ? row + 10000 : way == 2 ? random.nextInt(10000) : row;
        }

        void days() {
            long v = random.nextLong();
            switch (random.nextInt(16)) {
                case 0: is("seed(" + v + ")", lake.seed(v), model.seed(v)); break;
                case 1:
                case 2: is("undo()", lake.undo(), model.undo()); break;
                case 3: is("image()", lake.image(), model.image()); break;
                case 4: is("back()", lake.back(), model.back()); break;
                default: is("day()", lake.day(), model.day());
            }
        }

        void ask() {
            int kind = random.nextInt(33);
            if (kind < 16) {
                askFirst(kind);
            } else {
                askSecond(kind);
            }
        }

        int index(int below) {
            return random.nextInt(3) == 0 ? -1 : some(below);
        }

        void askFirst(int kind) {
            int part = some(2);
            int a = some(4);
            int b = some(4);
            switch (kind) {
                case 0: place(some(model.places.length), some(5)); break;
                case 1: is("thrown", lake.thrown(a, b), model.thrown(a, b)); break;
                case 2: is("answerTo " + a + b, lake.answerTo(a, b), model.answerTo(a, b)); break;
                case 3: is("mean(" + part + ")", lake.mean(part), model.mean(part)); break;
                case 4: {
                    int k = some(5);
                    int what = some(3);
                    is("tongue(" + k + ", " + what + ")", lake.tongue(k, what), model.tongue(k, what));
                    break;
                }
                case 5: {
                    boolean fog = random.nextBoolean();
                    boolean thunder = random.nextBoolean();
                    is("sense " + fog + thunder + part, lake.sense(fog, thunder, part), model.sense(fog, thunder, part));
                    break;
                }
                case 6: {
                    int i = index(random.nextBoolean() ? 256 : 16);
                    is("settled(" + i + ")", lake.settled(i), model.settled(i));
                    break;
                }
                case 7: is("worst(" + part + ")", lake.worst(part), model.worst(part)); break;
                case 8: {
                    int m = 1 + some(16);
                    int i = index(m);
                    is("code(" + m + ", " + a + ", " + i + ")", lake.code(m, a, i), model.code(m, a, i));
                    break;
                }
                case 9: is("fit " + a + b + part, lake.fit(a, b, part), model.fit(a, b, part)); break;
                case 10: is("pair(" + a + ")", lake.pair(a), model.pair(a)); break;
                case 11: {
                    int shoal = some(model.places.length);
                    int thrown = random.nextInt(3) > 0 && model.isPlace(shoal)
                        ? model.throwing[model.looks(shoal, model.fog)][random.nextInt(Math.max(1, model.signs))] : some(model.places.length);
                    if (model.seen.size() < 3 || random.nextInt(12) == 0 || shoal < 0 || model.none()) {
                        is("see", lake.see(shoal, thrown), model.see(shoal, thrown));
                    }
                    break;
                }
                case 12: {
                    int i = index(random.nextBoolean() ? 256 : 8);
                    is("meant(" + i + ")", lake.meant(i), model.meant(i));
                    break;
                }
                case 13: {
                    int day = some(model.days.size());
                    int what = some(3);
                    is("was " + day + " " + what, lake.was(day, what), model.was(day, what));
                    break;
                }
                case 14: is("lone " + a + part, lake.lone(a, part), model.lone(a, part)); break;
                default: {
                    int who = some(3);
                    is("alone " + who + a + b, lake.alone(who, a, b), model.alone(who, a, b));
                }
            }
        }

        void place(int place, int what) {
            long got = Long.MIN_VALUE;
            long want = Long.MIN_VALUE;
            try {
                got = lake.place(place, what);
            } catch (NoSuchElementException e) {
                got = Long.MIN_VALUE;
            }
            try {
                want = model.place(place, what);
            } catch (NoSuchElementException e) {
                want = Long.MIN_VALUE;
            }
            is("place(" + place + ", " + what + ")", got, want);
        }

        void askSecond(int kind) {
            int part = some(2);
            int a = some(4);
            int b = some(4);
            int n = 1 + some(3);
            switch (kind) {
                case 16: {
                    int row = row(n >= 1 && n <= 3 ? 1 << n : 2);
                    is("knots(" + n + ", " + row + ", " + part + ")", lake.knots(n, row, part), model.knots(n, row, part));
                    break;
                }
                case 17: {
                    int what = some(3);
                    if (n != 3 || random.nextInt(4) == 0) {
                        is("bestKnots(" + n + ", " + what + ")", lake.bestKnots(n, what), model.bestKnots(n, what));
                    }
                    break;
                }
                case 18: {
                    int fog = some(101);
                    int thunder = some(101);
                    is("weather(" + fog + ", " + thunder + ", " + part + ")", lake.weather(fog, thunder, part),
                        model.weather(fog, thunder, part));
                    break;
                }
                case 19: {
                    int what = some(3);
                    is("skill(" + what + ", " + part + ")", lake.skill(what, part), model.skill(what, part));
                    break;
                }
                case 20: is("cases(" + part + ")", lake.cases(part), model.cases(part)); break;
                case 21: {
                    int i = index(4);
                    is("mixed(" + i + ")", lake.mixed(i), model.mixed(i));
                    break;
                }
                case 22: {
                    int one = 10 * some(4) + a;
                    int other = 10 * some(4) + b;
                    is("crossed " + one + " " + other + part, lake.crossed(one, other, part), model.crossed(one, other, part));
                    break;
                }
                case 23: {
                    int i = index(5);
                    is("rests " + a + b + i, lake.rests(a, b, i), model.rests(a, b, i));
                    break;
                }
                case 24:
                case 25: leavers(); break;
                case 26: {
                    int m = 1 + some(16);
                    int word = some(1 << (1 + random.nextInt(8)));
                    is("read " + m + a + word, lake.read(m, a, word), model.read(m, a, word));
                    break;
                }
                case 27: {
                    int m = 1 + some(16);
                    is("spread " + m + " " + a, lake.spread(m, a), model.spread(m, a));
                    break;
                }
                case 28: {
                    int place = some(model.places.length);
                    is("hoard " + place + part, lake.hoard(place, part), model.hoard(place, part));
                    break;
                }
                case 29: is("said " + a + b, lake.said(a, b), model.said(a, b)); break;
                case 30: is("run()", lake.run(), model.run()); break;
                case 31: is("copy()", lake.copy(), model.copy()); break;
                default: {
                    int what = some(14);
                    is("count(" + what + ")", lake.count(what), model.count(what));
                }
            }
        }

        void leavers() {
            int[] digits = new int[4];
            List<Integer> there = new ArrayList<>(List.of(0, 1, 2, 3));
            for (int t = 0; t < 4; t++) {
                int pick = there.remove(random.nextInt(there.size()));
                boolean can = model.full(t) && model.fullThrows(pick) && random.nextInt(4) > 0;
                digits[t] = can || random.nextInt(30) == 0 ? pick : 9;
            }
            int row = random.nextInt(30) == 0 ? row(10) : Model.digits(digits);
            int i = index(6);
            is("leavers(" + row + ", " + i + ")", lake.leavers(row, i), model.leavers(row, i));
        }
    }
}
