/** Sentence by sentence, the edges of the TAPE, of the texts of LAKES and WORTHS, and of what is read from them. */
public final class TextEdgeTest extends Bench {
    private static final String PLACE_LETTERS = "wslf";
    private static final String LINE_LETTERS = "kt";

    public static void main(String[] args) {
        feedOrder();
        feedFull();
        endOfTape();
        faultSorts();
        placesAndLine();
        lettersOnce();
        allLetters();
        numbersOfItems();
        longNumbers();
        defaults();
        tooEarly();
        noWeight();
        blanks();
        otherBlanks();
        worthClauses();
        worthSigns();
        worthNumbers();
        nests();
        nestsApart();
        comparisons();
        heldNumbers();
        cuts();
        firstClause();
        caughtWithin();
        lettersOfWorth();
        texts();
        fourWorths();
        anotherLake();
        placesAsked();
        worthsAsked();
        close();
    }

    private static boolean feedAt(TugLake x, int[] where, String signs, int want) {
        int[] five = new int[5];
        for (int i = 0; i < where.length; i++) {
            five[where[i] / 4] |= signs.charAt(i) << (24 - 8 * (where[i] % 4));
        }
        return x.feed(five[0], five[1], five[2], five[3], five[4]) == want;
    }

    private static void feedOrder() {
        of(2, "Twenty bytes more come to the TAPE (of each number the highest first; bytes of 0 are left out)");
        for (int from = 0; from <= 15; from++) {
            for (int step = 1; from + 4 * step < 20; step++) {
                TugLake x = new TugLake();
                int[] where = {from, from + step, from + 2 * step, from + 3 * step, from + 4 * step};
                yes("feed of five bytes at " + from + " by " + step, feedAt(x, where, "p;pw9", 5));
                due("text(0)", x.text(0), 2);
                due("the weight", x.place(1, 0), 9);
            }
        }
        TugLake x = new TugLake();
        tell(x, "pw1s2l3f45;bk3t21 ;p");
        due("twenty at once", x.count(4), 20);
        due("all bytes of 0: how many it has", x.feed(0, 0, 0, 0, 0), 20);
        due("text(0)", x.text(0), 2);
        int[] items = {1, 2, 3, 45};
        for (int what = 0; what < 4; what++) {
            due("place(0, " + what + ")", x.place(0, what), items[what]);
        }
        due("signs", x.count(1), 3);
        due("lost", x.count(2), 21);
        due("bytes of 0 alone with nothing there", new TugLake().feed(0, 0, 0, 0, 0), 0);
        due("the lowest byte of the last number alone", new TugLake().feed(0, 0, 0, 0, 1), 1);
        due("the highest bit of the first number", new TugLake().feed(LOW, 0, 0, 0, 0), 1);
    }

    private static void feedFull() {
        of(2, "NONE: more than 160");
        for (int there = 139; there <= 160; there++) {
            for (int more = 0; more <= 20; more++) {
                TugLake x = new TugLake();
                tell(x, filled("", there));
                int[] five = chunk(filled("", more), 0);
                int want = there + more <= 160 ? there + more : NONE;
                due(more + " behind " + there, x.feed(five[0], five[1], five[2], five[3], five[4]), want);
                due(more + " behind " + there + ": bytes", x.count(4), want == NONE ? there : want);
            }
        }
        TugLake x = new TugLake();
        tell(x, filled("p;p", 159));
        due("two more, refused as a whole", x.feed(0x20780000, 0, 0, 0, 0), NONE);
        due("nothing of them came", x.fault(0), NONE);
        due("one more", x.feed(0, 0, 0, 0, 0x78), 160);
        due("it came", x.fault(0), 159);
        yes("end(159)", x.end(159));
        due("there is room again", x.feed(0x20000000, 0, 0, 0, 0), 160);
        due("text(0) of a full tape", x.text(0), 2);
        due("there is room again", x.feed(-1, -1, -1, -1, -1), 20);
    }

    private static void endOfTape() {
        of(3, "The TAPE has its first n bytes alone. False: n");
        TugLake empty = new TugLake();
        no("end(-1) of nothing", empty.end(-1));
        yes("end(0) of nothing", empty.end(0));
        no("end(1) of nothing", empty.end(1));
        for (int bytes : new int[] {1, 20, 159, 160}) {
            TugLake x = new TugLake();
            tell(x, filled("", bytes));
            int[] bad = {-1, bytes + 1, bytes + 100, 161, FAR, LOW};
            for (int n : bad) {
                no("end(" + n + ") of " + bytes, x.end(n));
                due("bytes", x.count(4), bytes);
            }
            for (int n : new int[] {bytes, bytes - 1, bytes / 2, 0}) {
                yes("end(" + n + ") of " + bytes, x.end(n));
                due("bytes", x.count(4), n);
                no("end(" + (n + 1) + ") of " + n, x.end(n + 1));
            }
        }
        TugLake x = new TugLake();
        tell(x, "p;pw2f9;p");
        yes("end(5)", x.end(5));
        tell(x, "l3");
        due("text(0)", x.text(0), 2);
        due("what was ahead stays", x.place(1, 0), 2);
        due("what was behind is gone", x.place(1, 3), 10);
        due("what came then is there", x.place(1, 2), 3);
    }

    private static void faultSorts() {
        of(4, "The FAULT of the TAPE as a LAKE (0), a WORTH (1). NONE: none. -2: no such sort");
        TugLake x = new TugLake();
        int[] bad = {-1, 2, 3, FAR, LOW};
        for (int sort : bad) {
            due("fault(" + sort + ") of nothing", x.fault(sort), -2);
        }
        due("fault(0) of nothing", x.fault(0), 0);
        due("fault(1) of nothing", x.fault(1), 0);
        tell(x, "p;p");
        due("fault(0) of a lake", x.fault(0), NONE);
        due("fault(1) of a lake", x.fault(1), 0);
        due("the tape stays", x.count(4), 3);
        x.end(0);
        tell(x, "y:p");
        due("fault(0) of a worth", x.fault(0), 0);
        due("fault(1) of a worth", x.fault(1), NONE);
        for (int sort : bad) {
            due("fault(" + sort + ") of a worth", x.fault(sort), -2);
        }
    }

    private static String repeated(String clause, int times) {
        return (clause + ";").repeat(times);
    }

    private static void placesAndLine() {
        of(4, "p (a PLACE; 2 .. 6), b (the LINE; one at most), in any order: a seventh p, a second b at it");
        for (int places = 0; places <= 8; places++) {
            for (int line = -1; line <= places; line++) {
                // The line ahead of so many places; none at -1.
                String text = line < 0 ? repeated("p", places) : repeated("p", line) + "b;" + repeated("p", places - line);
                if (text.isEmpty()) {
                    continue;
                }
                text = text.substring(0, text.length() - 1);
                int seventh = line >= 0 && line <= 6 ? 14 : 12;
                int want = places < 2 ? text.length() : places <= 6 ? NONE : seventh;
                due("'" + text + "'", faultOf(text, 0), want);
                if (want == NONE) {
                    due("'" + text + "' places", lake(text).count(0), places);
                }
            }
        }
        for (int first = 0; first <= 3; first++) {
            for (int second = first; second <= 3; second++) {
                String text = repeated("p", first) + "b;" + repeated("p", second - first) + "b;" + repeated("p", 3 - second) + "p";
                due("'" + text + "'", faultOf(text, 0), 2 * second + 2);
            }
        }
        of(5, "how many PLACES");
        for (int places = 2; places <= 6; places++) {
            TugLake x = new TugLake();
            tell(x, repeated("p", places - 1) + "pf" + places);
            due("text(0)", x.text(0), places);
            due("the last one", x.place(places - 1, 3), places);
            yes("none behind it", throwsNone(x, places, 0));
        }
    }

    private static void lettersOnce() {
        of(4, "a letter, each once at most in a CLAUSE: a letter that was there at it");
        for (char letter : PLACE_LETTERS.toCharArray()) {
            for (char other : PLACE_LETTERS.toCharArray()) {
                String text = "p" + letter + "1" + other + "2;p" + letter + "2";
                due("'" + text + "'", faultOf(text, 0), letter == other ? 3 : NONE);
                text = "p" + letter + "1" + other + "03" + letter + "1;p";
                due("'" + text + "'", faultOf(text, 0), letter == other ? 3 : 6);
            }
        }
        for (char letter : LINE_LETTERS.toCharArray()) {
            for (char other : LINE_LETTERS.toCharArray()) {
                String text = "b" + letter + "1" + other + "2;p;p";
                due("'" + text + "'", faultOf(text, 0), letter == other ? 3 : NONE);
            }
        }
        due("all four, each way round", faultOf("pw1s1l1f1;pf1l1s1w1;ps1f1w1l1;pl1w1f1s1", 0), NONE);
        due("a fifth item", faultOf("pw1s1l1f1w1;p", 0), 9);
        due("a third item", faultOf("bk1t1k1;p;p", 0), 5);
    }

    private static void allLetters() {
        of(4, "FAULT: the first byte at which no such TEXT can go on");
        for (char sign = 1; sign <= 255; sign++) {
            int late = sign == ' ' || sign == ';' ? 2 : 1;
            due("p " + (int) sign, faultOf("p" + sign + "1;p", 0), PLACE_LETTERS.indexOf(sign) >= 0 ? NONE : late);
            due("b " + (int) sign, faultOf("b" + sign + "1;p;p", 0), LINE_LETTERS.indexOf(sign) >= 0 ? NONE : late);
            int first = sign == 'p' || sign == 'b' ? NONE : sign == ' ' ? 1 : 0;
            due("clause " + (int) sign, faultOf(sign + ";p;p", 0), first);
            boolean digit = sign >= '0' && sign <= '9';
            due("number " + (int) sign, faultOf("pf" + sign + ";p", 0), digit ? NONE : sign == ' ' ? 3 : 2);
            int behind = sign == ' ' || digit ? NONE : sign == ';' || "wsl".indexOf(sign) >= 0 ? 6 : 5;
            due("behind a number " + (int) sign, faultOf("p;pf1" + sign, 0), behind);
        }
    }

    private static int least(char letter) {
        return letter == 'k' ? 1 : 0;
    }

    private static int most(char letter) {
        return letter == 'w' ? 9 : letter == 's' || letter == 'l' ? 3 : letter == 'k' ? 4 : 99;
    }

    private static int itemOf(TugLake x, char letter) {
        int item = PLACE_LETTERS.indexOf(letter);
        return item >= 0 ? x.place(0, item) : x.count(letter == 'k' ? 1 : 2);
    }

    private static void numberOf(char letter, String digits) {
        boolean isPlace = PLACE_LETTERS.indexOf(letter) >= 0;
        String text = (isPlace ? "p" : "b") + letter + digits + (isPlace ? ";p" : ";p;p");
        int value = Integer.parseInt(digits);
        boolean within = value >= least(letter) && value <= most(letter);
        due("'" + text + "'", faultOf(text, 0), within ? NONE : 1 + digits.length());
        if (within) {
            due("'" + text + "' is told", itemOf(lake(text), letter), value);
        }
    }

    private static void numbersOfItems() {
        of(4, "w WEIGHT (0 .. 9), s SOUND (0 .. 3), l LOOK (0 .. 3), f FISH (0 .. 99), k SIGNS (1 .. 4), t LOST (0 .. 99): "
            + "a number (one or two digits) out of bounds is wrong at its last digit");
        for (char letter : (PLACE_LETTERS + LINE_LETTERS).toCharArray()) {
            for (int value = 0; value <= 99; value++) {
                numberOf(letter, Integer.toString(value));
                if (value < 10) {
                    numberOf(letter, "0" + value);
                }
            }
            String clause = (PLACE_LETTERS.indexOf(letter) >= 0 ? "p" : "b") + letter;
            due("no digit", faultOf(clause + ";p;p", 0), 2);
            due("no digit, a blank", faultOf(clause + " ;p;p", 0), 3);
            due("no digit, the end", faultOf("p;p;" + clause, 0), 6);
        }
    }

    private static void longNumbers() {
        of(4, "a third digit itself, whatever stands ahead of it");
        for (char letter : (PLACE_LETTERS + LINE_LETTERS).toCharArray()) {
            String clause = (PLACE_LETTERS.indexOf(letter) >= 0 ? "p" : "b") + letter;
            for (int value = 0; value <= 999; value += 7) {
                String digits = "" + value / 100 + value / 10 % 10 + value % 10;
                due("'" + clause + digits + "'", faultOf(clause + digits + ";p;p", 0), 4);
                due("'" + clause + digits + "9'", faultOf(clause + digits + "9", 0), 4);
            }
            due("in bounds as a number", faultOf(clause + "001;p;p", 0), 4);
            due("the third behind a blank is no digit of it", faultOf(clause + "01 1;p;p", 0), 5);
        }
    }

    private static void defaults() {
        of(5, "w WEIGHT (1 without), s SOUND (0), l LOOK (0), f FISH (10), k SIGNS (2), t LOST (0)");
        int[] items = {1, 0, 0, 10};
        TugLake x = new TugLake();
        for (String ahead : new String[] {"", "pw9s3l3f99;pw8s2l2f98;pw7s1l1f97;bk4t99"}) {
            if (!ahead.isEmpty()) {
                tell(x, ahead);
                due("text(0)", x.text(0), 3);
            }
            for (String text : new String[] {"p;p;p", "p;p;p;b"}) {
                tell(x, text);
                due("text(0)", x.text(0), 3);
                for (int place = 0; place < 3; place++) {
                    for (int what = 0; what < 4; what++) {
                        due("'" + text + "' place(" + place + ", " + what + ")", x.place(place, what), items[what]);
                    }
                }
                due("signs", x.count(1), 2);
                due("lost", x.count(2), 0);
                // The WEIGHTS count anew, too: 10 of 3 times 1.
                due("mean", x.mean(0), 10);
                due("mean", x.mean(1), 3);
            }
        }
        due("signs told alone", lake("p;p;bk4").count(2), 0);
        due("lost told alone", lake("p;p;bt50").count(1), 2);
    }

    private static void tooEarly() {
        of(4, "the length, if it ends too early, with fewer than two PLACES");
        String text = "pw1s2l3f45;bk2t99;pw0s 3f07";
        for (int n = 0; n <= text.length(); n++) {
            String start = text.substring(0, n);
            boolean whole = start.endsWith(";p") && n > 15 || start.endsWith("w0") || start.endsWith(" 3") || start.endsWith("f0")
                || start.endsWith("07");
            due("'" + start + "'", faultOf(start, 0), whole ? NONE : n);
        }
        String worth = "y:!(f=1|[p]<22)&s>3?l*4/w;y:9999";
        for (int n = 0; n <= worth.length(); n++) {
            String start = worth.substring(0, n);
            boolean whole = start.endsWith("?l") || start.endsWith("*4") || start.endsWith("/w") || start.indexOf('9') >= 0;
            due("'" + start + "'", faultOf(start, 1), whole ? NONE : n);
        }
        for (int n = 157; n <= 160; n++) {
            due("one place, " + n + " bytes", faultOf(filled("p", n), 0), n);
            due("two places, " + n + " bytes", faultOf(filled("p;p", n), 0), NONE);
            due("a worth, " + n + " bytes", faultOf(filled("y:1", n), 1), NONE);
            due("a worth that lacks its sum, " + n + " bytes", faultOf(filled("y:", n), 1), n);
        }
        due("one place and the line", faultOf("b;p", 0), 3);
        due("the line alone", faultOf("bk1t1", 0), 5);
    }

    private static void noWeight() {
        of(4, "the length, with no WEIGHT above 0");
        for (int places = 2; places <= 6; places++) {
            String none = repeated("pw0", places) + "bk1";
            due("'" + none + "'", faultOf(none, 0), none.length());
            due("'" + none + " '", faultOf(none + " ", 0), none.length() + 1);
            for (int one = 0; one < places; one++) {
                String some = repeated("pw00", one) + "pw1;" + repeated("pw0", places - one - 1) + "b";
                due("'" + some + "'", faultOf(some, 0), NONE);
                due("by itself a PLACE has a WEIGHT", faultOf(repeated("pw0", one) + "p;" + repeated("pw0", places - one - 1) + "b", 0), NONE);
            }
        }
        due("a fault ahead of the length stays", faultOf("pw0;pw0x", 0), 7);
        TugLake x = new TugLake();
        tell(x, "pw9;pw9;pw9;pw9;pw9;pw9");
        due("weights", x.fault(0), NONE);
        x.end(0);
        tell(x, "pw0;pw0");
        due("none, behind a text of weights", x.fault(0), 7);
        x.end(0);
        tell(x, "p");
        due("one place, behind a text of six", x.fault(0), 1);
    }

    private static void blanksIn(String text, int sort) {
        for (int at = 0; at <= text.length(); at++) {
            for (int many = 1; many <= 21; many += 20) {
                String spread = text.substring(0, at) + " ".repeat(many) + text.substring(at);
                boolean inNumber = at > 0 && at < text.length() && Character.isDigit(text.charAt(at - 1)) && Character.isDigit(text.charAt(at));
                due("'" + spread + "'", faultOf(spread, sort), inNumber ? at + many : NONE);
            }
        }
    }

    private static void blanks() {
        of(4, "Blanks (32) may stand between all signs of both, not within numbers");
        blanksIn("pw9s03l2f45;bk4t10;p", 0);
        blanksIn("y:!(f=12|[p+1]<220)&s>3?l*4/w-1;y:9999", 1);
        String text = "pw9s03l2f45;bk4t10;p";
        StringBuilder apart = new StringBuilder(" ");
        for (int i = 0; i < text.length(); i++) {
            boolean inNumber = i + 1 < text.length() && Character.isDigit(text.charAt(i)) && Character.isDigit(text.charAt(i + 1));
            apart.append(text.charAt(i)).append(inNumber ? "" : "  ");
        }
        TugLake x = lake(apart.toString());
        int[] items = {9, 3, 2, 45};
        for (int what = 0; what < 4; what++) {
            due("place(0, " + what + ")", x.place(0, what), items[what]);
        }
        due("signs", x.count(1), 4);
        due("lost", x.count(2), 10);
        due("blanks alone are no lake", faultOf("     ", 0), 5);
        due("blanks alone are no worth", faultOf("     ", 1), 5);
    }

    private static void otherBlanks() {
        of(4, "Blanks (32): no other byte is one");
        int[] others = {1, 9, 10, 13, 31, 33, 95, 127, 128, 160, 255};
        for (int other : others) {
            char sign = (char) other;
            for (int at = 0; at <= 3; at++) {
                String text = "p;p".substring(0, at) + sign + "p;p".substring(at);
                due("byte " + other + " at " + at, faultOf(text, 0), at);
            }
            for (int at = 0; at <= 4; at++) {
                String text = "y:1;".substring(0, at) + sign + "y:1;y:1".substring(at);
                int want = other == '!' && at == 2 ? 4 : at;
                due("byte " + other + " at " + at + " of a worth", faultOf(text, 1), want);
            }
        }
    }

    private static void worthClauses() {
        of(4, "WORTHS are TEXTS: CLAUSES with ; between, one at least");
        due("none", faultOf("", 1), 0);
        due("one", faultOf("y:1", 1), NONE);
        due("a ; behind the last", faultOf("y:1;", 1), 4);
        due("a ; ahead of the first", faultOf(";y:1", 1), 0);
        due("two ; between", faultOf("y:1;;y:1", 1), 4);
        due("without :", faultOf("y1", 1), 1);
        due("without y", faultOf(":1", 1), 0);
        due("as many as the tape can hold", faultOf("y:1;".repeat(39) + "y:1 ", 1), NONE);
        due("one : too many", faultOf("y::1", 1), 2);
        of(4, "perhaps CONDITION ?, then SUM");
        due("a condition without ?", faultOf("y:f=1", 1), 5);
        due("a condition without a sum", faultOf("y:f=1?", 1), 6);
        due("a second condition", faultOf("y:f=1?f=1?2", 1), 7);
        due("a second ?", faultOf("y:f=1??2", 1), 6);
        due("a ? without a condition", faultOf("y:?2", 1), 2);
        due("a sum in place of a condition", faultOf("y:f?2", 1), 3);
        of(4, "(A CLAUSE that goes on with ! or ( behind its : has a CONDITION.)");
        due("a ( without a condition", faultOf("y:(f)", 1), 4);
        due("a ( without ?", faultOf("y:(f=1);y:1", 1), 7);
        due("a ! without ?", faultOf("y:!f=1;y:1", 1), 6);
        due("( is none of a sum", faultOf("y:(f+1)*2", 1), 6);
        due("behind blanks, too", faultOf("y:  (f=1)", 1), 9);
        due("( behind a sign of a sum", faultOf("y:1+(f=1)", 1), 4);
        due("! behind a sign of a sum", faultOf("y:1+!f", 1), 4);
    }

    private static void worthSigns() {
        of(4, "FAULT: the first byte at which no such TEXT can go on");
        for (char sign = 1; sign <= 255; sign++) {
            boolean digit = sign >= '0' && sign <= '9';
            boolean atom = digit || "fpslw".indexOf(sign) >= 0;
            boolean sums = "+-*/".indexOf(sign) >= 0;
            boolean compares = "=<>".indexOf(sign) >= 0;
            due("behind : " + (int) sign, faultOf("y:" + sign, 1), atom ? NONE : "[(! ".indexOf(sign) >= 0 ? 3 : 2);
            due("behind an atom " + (int) sign, faultOf("y:f" + sign, 1), sign == ' ' ? NONE : sums || compares || sign == ';' ? 4 : 3);
            int joins = sums || sign == '&' || sign == '|' || sign == '?' || digit || sign == ' ' ? 6 : 5;
            due("behind a comparison " + (int) sign, faultOf("y:f=1" + sign, 1), joins);
            due("behind the sum " + (int) sign, faultOf("y:f=1?2" + sign, 1),
                digit || sign == ' ' ? NONE : sums || sign == ';' ? 8 : 7);
            due("behind [ " + (int) sign, faultOf("y:[" + sign, 1), atom || sign == '[' || sign == ' ' ? 4 : 3);
            due("in [ ] " + (int) sign, faultOf("y:[f" + sign, 1), sign == ']' || sign == ' ' || sums ? sign == ']' ? NONE : 5 : 4);
            due("in ( ) " + (int) sign, faultOf("y:(f=p" + sign, 1),
                sign == ')' || sign == ' ' || sums || sign == '&' || sign == '|' ? 7 : 6);
            due("behind + " + (int) sign, faultOf("y:1+" + sign, 1), atom ? NONE : sign == '[' || sign == ' ' ? 5 : 4);
            due("behind & " + (int) sign, faultOf("y:1=1&" + sign, 1), atom || "[(! ".indexOf(sign) >= 0 ? 7 : 6);
            due("behind ? " + (int) sign, faultOf("y:1=1?" + sign, 1), atom ? NONE : sign == '[' || sign == ' ' ? 7 : 6);
        }
    }

    private static void worthNumbers() {
        of(4, "a number (1 to 4 digits): a fifth one in a WORTH itself");
        String[] numbers = {"0", "9", "00", "10", "99", "000", "999", "0000", "0001", "9999"};
        for (String number : numbers) {
            due("y:" + number, faultOf("y:" + number, 1), NONE);
            due("y:f<" + number + "?1", faultOf("y:f<" + number + "?1", 1), NONE);
        }
        for (String number : new String[] {"00000", "00001", "10000", "99999", "123456", "1234567890"}) {
            due("y:" + number, faultOf("y:" + number, 1), 6);
            due("y:1+" + number, faultOf("y:1+" + number, 1), 8);
            due("y:[" + number, faultOf("y:[" + number, 1), 7);
            due("y:" + number + "<1?1", faultOf("y:" + number + "<1?1", 1), 6);
            due("y:1<" + number + "?1", faultOf("y:1<" + number + "?1", 1), 8);
            due("y:1<1?" + number, faultOf("y:1<1?" + number, 1), 10);
        }
        due("a blank within", faultOf("y:123 4", 1), 6);
    }

    // All rows of so many of ( and ! (as bits) with [ behind them, up to seven in all.
    private static String nest(int many, int bits, int all) {
        StringBuilder row = new StringBuilder();
        for (int i = 0; i < all; i++) {
            row.append(i >= many ? '[' : (bits >> i) % 2 == 0 ? '(' : '!');
        }
        return row.toString();
    }

    private static String closed(String nest) {
        StringBuilder text = new StringBuilder("y:" + nest + "f");
        for (int i = 0; i < nest.length(); i++) {
            text.append(nest.charAt(i) == '[' ? "]" : "");
        }
        text.append("=1");
        for (int i = 0; i < nest.length(); i++) {
            text.append(nest.charAt(i) == '(' ? ")" : "");
        }
        return text + "?1";
    }

    private static void nests() {
        of(4, "At most six of ( [ ! within one another: a seventh of ( [ ! at it");
        for (int many = 0; many <= 7; many++) {
            for (int bits = 0; bits < 1 << many; bits++) {
                for (int all = Math.max(5, many); all <= 7; all++) {
                    String text = closed(nest(many, bits, all));
                    due("'" + text + "'", faultOf(text, 1), all <= 6 ? NONE : 8);
                }
            }
        }
        for (int bits = 0; bits < 64; bits++) {
            String row = nest(6, bits, 6);
            due("'" + row + "' then an atom", faultOf("y:" + row + "f", 1), 9);
            due("'" + row + "' then blanks and a seventh", faultOf("y:" + row + "   (", 1), 11);
            due("a seventh [ behind the comparison", faultOf("y:" + row + "f=[1", 1), 10);
        }
    }

    private static void nestsApart() {
        of(4, "within one another: those beside one another do not count");
        String six = "[[[[[[f]]]]]]";
        due("sums beside", faultOf("y:" + six + "+" + six + "*" + six, 1), NONE);
        due("both sides", faultOf("y:" + six + "=" + six + "?" + six, 1), NONE);
        due("clauses", faultOf("y:" + six + "=1?" + six + ";y:" + six, 1), NONE);
        due("six behind a ! that is over", faultOf("y:!f=1&((((((f=1))))))?1", 1), NONE);
        due("six behind six !", faultOf("y:!!!!!!f=1|!!!!!!f=1?1", 1), NONE);
        due("six behind a ( ) that is over", faultOf("y:(f=1)|((((((f=1))))))?1", 1), NONE);
        due("five in a ( and two of them", faultOf("y:(!!!!!f=1&[[[[[f]]]]]=1)?1", 1), NONE);
        due("six in a (", faultOf("y:(f=1&!!!!!!f=1)?1", 1), 12);
        due("six in a !", faultOf("y:!((((((f=1))))))?1", 1), 8);
        due("seven in the sum behind ?", faultOf("y:!!!!!!f=1?[[[[[[[f", 1), 18);
        due("six in the sum behind ?", faultOf("y:!!!!!!f=1?" + six, 1), NONE);
        due("six ! hold as none", worthAt("y:!!!!!!f=10?7;y:8", 0), 7);
        due("five ! hold as one", worthAt("y:!!!!!f=10?7;y:8", 0), 8);
        due("six [ are the sum", worthAt("y:" + six + "*2", 0), 20);
    }

    private static int worthAt(String worth, int place) {
        return lakeWith("p;pw0s3l2f99;pw9s1l3f0", worth).place(place, 4);
    }

    private static void comparisons() {
        of(7, "SUM, one of = < >, SUM");
        String signs = "=<>";
        int[][] holds = {{0, 1, 0}, {1, 0, 0}, {0, 0, 1}};
        for (int sign = 0; sign < 3; sign++) {
            for (int place = 0; place < 3; place++) {
                due("p" + signs.charAt(sign) + "1 of " + place, worthAt("y:p" + signs.charAt(sign) + "1?1", place), holds[sign][place]);
            }
        }
        due("below 0", worthAt("y:0-1<0?1", 0), 1);
        due("0 is not below 0", worthAt("y:0<0?1", 0), 0);
        due("0 is not above 0", worthAt("y:0>0?1", 0), 0);
        due("& ahead of |", worthAt("y:1=1|1=2&1=2?1", 0), 1);
        due("( ) ahead of &", worthAt("y:(1=1|1=2)&1=2?1", 0), 0);
        due("* ahead of +", worthAt("y:2+3*4", 0), 14);
        due("! is of its UNIT alone", worthAt("y:!1=2&1=2?1", 0), 0);
        due("! of a comparison", worthAt("y:!1=2?1", 0), 1);
    }

    private static void heldNumbers() {
        of(7, "Behind each sign numbers are within -1,000,000 .. 1,000,000");
        due("just below", worthAt("y:1000*1000-1-9999*100", 0), 99);
        due("at it", worthAt("y:1000*1000-9999*100", 0), 100);
        due("just above, by +", worthAt("y:1000*1000+1-9999*100", 0), 100);
        due("far above, by +", worthAt("y:1000*1000+9999-9999*100", 0), 100);
        due("just above, by *", worthAt("y:[1000*1000-1]*2-9999*100", 0), 100);
        due("1001 by 999 is just below", worthAt("y:1001*999-9999*100", 0), 99);
        due("9999 by 101 is above", worthAt("y:9999*101-9999*100", 0), 100);
        due("a million by a million", worthAt("y:[1000*1000]*[1000*1000]-9999*100", 0), 100);
        String low = "+9999*100+500";
        due("just above the least", worthAt("y:0-1000*1000+1" + low, 0), 401);
        due("at the least", worthAt("y:0-1000*1000" + low, 0), 400);
        due("just below the least, by -", worthAt("y:0-1000*1000-1" + low, 0), 400);
        due("far below the least, by -", worthAt("y:0-1000*1000-9999" + low, 0), 400);
        due("below the least, by *", worthAt("y:[0-1001]*1000" + low, 0), 400);
        due("far below the least", worthAt("y:[0-1000*1000]*[1000*1000]" + low, 0), 400);
        due("less by less is above", worthAt("y:[0-9999]*[0-9999]-9999*100", 0), 100);
        due("each sign by itself: the first is held", worthAt("y:9999*9999*9999/1000/100", 0), 10);
        due("each sign by itself: - behind what is held", worthAt("y:1000*1000+1-1-9999*100", 0), 99);
        due("in a comparison", worthAt("y:1000*1000+1=1000*1000?1", 0), 1);
        due("in a comparison, below", worthAt("y:1000*1000-1=1000*1000?1", 0), 0);
    }

    private static void cuts() {
        of(7, "/ cuts towards 0, by 0 gives 0");
        int[][] rows = {{6, 2, 3}, {7, 2, 3}, {1, 2, 0}, {0, 2, 0}, {9999, 9999, 1}, {9998, 9999, 0}, {5, 0, 0}, {0, 0, 0}, {5, 1, 5}};
        for (int[] row : rows) {
            due(row[0] + "/" + row[1], worthAt("y:" + row[0] + "/" + row[1] + "+100", 0), 100 + row[2]);
            due("-" + row[0] + "/" + row[1], worthAt("y:[0-" + row[0] + "]/" + row[1] + "+100", 0), 100 - row[2]);
            due(row[0] + "/-" + row[1], worthAt("y:" + row[0] + "/[0-" + row[1] + "]+100", 0), 100 - row[2]);
            due("-" + row[0] + "/-" + row[1], worthAt("y:[0-" + row[0] + "]/[0-" + row[1] + "]+100", 0), 100 + row[2]);
        }
        due("by 0, then by 0 again", worthAt("y:7/0/0+1", 0), 1);
        due("by 0, then *", worthAt("y:7/0*9+1", 0), 1);
        due("a million by 0", worthAt("y:1000*1000/0+2", 0), 2);
        due("by a letter that is 0", worthAt("y:7/p+3", 0), 3);
        due("by a letter that is 1", worthAt("y:7/p+3", 1), 10);
    }

    private static void firstClause() {
        of(7, "WORTH: the SUM of the first CLAUSE whose CONDITION holds (or has none), 0 without");
        String worth = "y:p=0?5;y:p<2?6;y:p=1?7";
        due("the first", worthAt(worth, 0), 5);
        due("the second, not the third", worthAt(worth, 1), 6);
        due("none", worthAt(worth, 2), 0);
        due("none of one", worthAt("y:p=3?9", 0), 0);
        due("one that has none holds ahead of others", worthAt("y:3;y:p=0?5;y:4", 0), 3);
        due("the last has none", worthAt("y:p=1?5;y:4", 0), 4);
        due("a first one of 0 holds", worthAt("y:p=0?0;y:4", 0), 0);
    }

    private static void caughtWithin() {
        of(7, "by the WORTH that holds, that, held within 0 .. 999");
        int[][] rows = {{0, 0}, {1, 1}, {998, 998}, {999, 999}, {1000, 999}, {9999, 999}};
        for (int[] row : rows) {
            TugLake x = lakeWith("p;pw0", "y:" + row[0]);
            due("place", x.place(0, 4), row[1]);
            due("mean", x.mean(0), row[1]);
            due("day", x.day(), row[1]);
        }
        due("just below 0", worthAt("y:0-1", 0), 0);
        due("far below 0", worthAt("y:0-1000*1000", 0), 0);
        due("far above", worthAt("y:1000*1000", 0), 999);
        due("FISH without a WORTH: the most", lake("pf99;p").place(0, 4), 99);
        due("FISH without a WORTH: the least", lake("pf0;p").place(0, 4), 0);
    }

    private static void lettersOfWorth() {
        of(7, "letters: f FISH, p the PLACE, s SOUND, l LOOK as told, w WEIGHT");
        String text = "pw9s3l3f99;pw0s0l0f0;p;pw1s2l1f50;pw2;pw3f7";
        int[][] rows = {{99, 0, 3, 3, 9}, {0, 1, 0, 0, 0}, {10, 2, 0, 0, 1}, {50, 3, 2, 1, 1}, {10, 4, 0, 0, 2}, {7, 5, 0, 0, 3}};
        for (int letter = 0; letter < 5; letter++) {
            TugLake x = lakeWith(text, "y:" + "fpslw".charAt(letter));
            for (int weather = 0; weather < 4; weather++) {
                x.set(0, weather % 2 == 1);
                x.set(1, weather / 2 == 1);
                for (int place = 0; place < 6; place++) {
                    due("fpslw".charAt(letter) + " of " + place, x.place(place, 4), rows[place][letter]);
                }
            }
        }
        TugLake x = lakeWith("ps1l1;p", "y:s*100+l*10");
        x.set(0, true);
        x.set(1, true);
        due("as told, in fog and thunder", x.place(0, 4), 110);
        due("what is caught, too", x.mean(0), 55);
    }

    private static void texts() {
        of(5, "The TAPE (empty then) is the LAKE: how many PLACES; a WORTH: its number. NONE: a FAULT, no such sort");
        TugLake x = new TugLake();
        int[] sorts = {-1, 2, FAR, LOW};
        for (int sort : sorts) {
            due("text(" + sort + ") of nothing", x.text(sort), NONE);
        }
        due("text(0) of nothing", x.text(0), NONE);
        due("text(1) of nothing", x.text(1), NONE);
        tell(x, "p;p");
        for (int sort : sorts) {
            due("text(" + sort + ") of a lake", x.text(sort), NONE);
        }
        due("text(1) of a lake", x.text(1), NONE);
        due("the tape stays", x.count(4), 3);
        due("no lake yet", x.count(0), 0);
        due("text(0)", x.text(0), 2);
        due("the tape is empty", x.count(4), 0);
        due("text(0) again, of nothing", x.text(0), NONE);
        due("the lake stays", x.count(0), 2);
        tell(x, "y:3");
        due("text(0) of a worth", x.text(0), NONE);
        due("the lake stays", x.count(0), 2);
        due("text(1)", x.text(1), 0);
        due("the tape is empty", x.count(4), 0);
        tell(x, "p");
        due("fewer than two places", x.text(0), NONE);
        tell(x, ";p;p;p;p;p;p");
        due("more than six", x.text(0), NONE);
        due("the tape stays", x.count(4), 13);
        x.end(11);
        due("six", x.text(0), 6);
    }

    private static void fourWorths() {
        of(5, "a WORTH: its number. NONE: there are four WORTHS");
        TugLake x = new TugLake();
        for (int worth = 0; worth < 4; worth++) {
            due("worths", x.count(3), worth);
            tell(x, "y:f+" + worth);
            due("text(1)", x.text(1), worth);
        }
        tell(x, "y:77");
        due("a fifth one, without a fault", x.fault(1), NONE);
        due("a fifth one", x.text(1), NONE);
        due("worths", x.count(3), 4);
        due("the tape stays", x.count(4), 4);
        x.end(0);
        tell(x, "p;p");
        due("a lake, with four worths there", x.text(0), 2);
        for (int worth = 0; worth < 4; worth++) {
            yes("worth(" + worth + ")", x.worth(worth));
            due("each is its own", x.place(0, 4), 10 + worth);
        }
        of(5, "all that was of another LAKE is gone but WORTHS");
        tell(x, "y:78");
        due("a fifth one, another lake or not", x.text(1), NONE);
        of(5, "a WORTH of 160 bytes");
        TugLake y = lake("p;p");
        for (int worth = 0; worth < 4; worth++) {
            tell(y, filled("y:", 159) + (worth + 1));
            due("text(1)", y.text(1), worth);
        }
        for (int worth = 3; worth >= 0; worth--) {
            y.worth(worth);
            due("its last byte counts", y.place(1, 4), worth + 1);
        }
    }

    // All of another LAKE is gone: the object shows what a new one with the same WORTHS and draws shows.
    private static void anotherLake() {
        of(5, "all that was of another one is gone but WORTHS, which holds, draws; no FOG, no THUNDER, nobody LEARNS");
        for (int way = 0; way < 16; way++) {
            TugLake x = new TugLake();
            TugLake y = new TugLake();
            for (TugLake each : new TugLake[] {x, y}) {
                tell(each, "y:f*2");
                each.text(1);
                tell(each, "y:f+5");
                each.text(1);
                each.worth(way % 3 - 1);
            }
            livedIn(x, way);
            x.seed(way * 1000003L);
            y.seed(way * 1000003L);
            for (TugLake each : new TugLake[] {x, y}) {
                tell(each, "pf3;pw2s1l1f4;ps2l2f5;bk3t40");
                due("text(0)", each.text(0), 3);
            }
            same("another lake, reckoned, " + way, reckoned(x), reckoned(y));
            same("another lake, " + way, shown(x), shown(y));
        }
        emptyShelves();
        TugLake x = lake(THREE);
        x.seed(5);
        x.day();
        int second = new Draws(5).next(6, 2);
        tell(x, "p;p;p;p;p;p");
        x.text(0);
        x.day();
        due("draws go on, not from the seed", x.was(0, 0), second);
    }

    private static void emptyShelves() {
        for (int put = 0; put < 2; put++) {
            TugLake x = new TugLake();
            livedIn(x, 0);
            tell(x, "p;p");
            x.text(0);
            for (int shelf = 0; shelf < 4; shelf++) {
                x.shelve(put == 1, shelf);
            }
            for (int one = 0; one < 4; one++) {
                due("pair(" + one + ")", x.pair(one), NONE);
                due("rests", x.rests(one, one, NONE), put == 0 ? 0 : NONE);
                for (int other = 0; other < 4; other++) {
                    due("fit(" + one + ", " + other + ", 0)", x.fit(one, other, 0), NONE);
                }
            }
            due("leavers", x.leavers(9999, NONE), 0);
        }
    }

    private static void livedIn(TugLake x, int way) {
        tell(x, SIX + "t30");
        x.text(0);
        x.tugs(123);
        x.answer();
        for (int shelf = 0; shelf < 4; shelf++) {
            x.shelve(false, shelf);
            x.shelve(true, shelf);
            x.see(shelf, shelf);
        }
        for (int what = 0; what < 4; what++) {
            x.set(what, (way >> what) % 2 == 1);
        }
        x.wet(77);
        for (int day = 0; day < 5 * (way % 9); day++) {
            x.day();
        }
        if (way % 2 == 0) {
            x.image();
        }
    }

    private static void placesAsked() {
        of(6, "Of a PLACE: 0 WEIGHT .. 4 what it is worth. NoSuchElementException: no such ones");
        TugLake none = new TugLake();
        for (int what = -1; what <= 5; what++) {
            yes("no lake: throws", throwsNone(none, 0, what));
            yes("no lake: throws", throwsNone(none, -1, what));
        }
        for (int places = 2; places <= 6; places++) {
            TugLake x = lake("p" + ";p".repeat(places - 1));
            for (int what = -1; what <= 5; what++) {
                for (int place = -1; place <= places; place++) {
                    boolean there = place >= 0 && place < places && what >= 0 && what <= 4;
                    due("place(" + place + ", " + what + ") of " + places + " throws", throwsNone(x, place, what) ? 1 : 0, there ? 0 : 1);
                }
            }
            yes("far", throwsNone(x, FAR, 0) && throwsNone(x, LOW, 0) && throwsNone(x, 0, FAR) && throwsNone(x, 0, LOW));
        }
    }

    private static void worthsAsked() {
        of(7, "The WORTH that holds (NONE: none). False: no such one");
        TugLake x = new TugLake();
        for (int many = 0; many <= 4; many++) {
            int[] bad = {many, many + 1, 4, 5, -2, FAR, LOW};
            for (int worth : bad) {
                due("count(12)", x.count(12), many == 0 ? NONE : many - 1);
                no("worth(" + worth + ") of " + many, x.worth(worth));
            }
            for (int worth = NONE; worth < many; worth++) {
                yes("worth(" + worth + ") of " + many, x.worth(worth));
                due("count(12)", x.count(12), worth);
                yes("worth(" + worth + ") again", x.worth(worth));
            }
            tell(x, "y:" + (50 + many));
            due("text(1)", x.text(1), many < 4 ? many : NONE);
            x.worth(many < 4 ? many : 3);
        }
        x.end(0);
        tell(x, "p;p");
        due("text(0)", x.text(0), 2);
        due("it holds for a lake told then", x.place(1, 4), 53);
        yes("worth(NONE)", x.worth(NONE));
        due("none: FISH", x.place(1, 4), 10);
    }
}
