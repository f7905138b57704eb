/** Promise by promise: ordinary inputs, edges and wrong inputs, with answers reckoned by hand from the document. */
public final class PromiseTest extends Bench {
    public static void main(String[] args) {
        newObject();
        feed();
        end();
        lakeFaults();
        worthFaults();
        fullTapes();
        text();
        place();
        worth();
        worthValues();
        set();
        tugs();
        throwing();
        answers();
        mean();
        tongue();
        sense();
        settledAndWorst();
        code();
        shelvesAndFit();
        pair();
        seeAndMeant();
        seedAndDay();
        wasAndUndo();
        wet();
        lone();
        alone();
        knots();
        bestKnots();
        weather();
        skill();
        cases();
        mixed();
        crossed();
        rests();
        leavers();
        readAndSpread();
        daysReckoned();
        blindLearns();
        copy();
        imageAndBack();
        count();
        close();
    }

    // What an object without a LAKE answers.
    private static void newObject() {
        promise = 1;
        TugLake x = new TugLake();
        int[] zero = {0, 1, 2, 3, 4, 5, 6, 7, 8, 9, 10, 11, 13};
        for (int what : zero) {
            due("count(" + what + ")", x.count(what), 0);
        }
        due("count(12)", x.count(12), NONE);
        yes("place(0, 0) throws", throwsNone(x, 0, 0));
        no("set(0, true)", x.set(0, true));
        no("set(0, false)", x.set(0, false));
        no("tugs(0)", x.tugs(0));
        no("throwTo(0, 0, 0)", x.throwTo(0, 0, 0));
        due("thrown(0, 0)", x.thrown(0, 0), NONE);
        no("answer()", x.answer());
        due("answerTo(0, 0)", x.answerTo(0, 0), NONE);
        due("mean(0)", x.mean(0), NONE);
        due("tongue(1, 0)", x.tongue(1, 0), NONE);
        due("sense(false, false, 0)", x.sense(false, false, 0), NONE);
        due("settled(NONE)", x.settled(NONE), NONE);
        due("worst(0)", x.worst(0), NONE);
        no("shelve(true, 0)", x.shelve(true, 0));
        due("fit(0, 0, 0)", x.fit(0, 0, 0), NONE);
        due("pair(0)", x.pair(0), NONE);
        due("see(0, 0)", x.see(0, 0), NONE);
        due("meant(NONE)", x.meant(NONE), NONE);
        due("day()", x.day(), NONE);
        due("was(0, 0)", x.was(0, 0), NONE);
        due("undo()", x.undo(), NONE);
        no("wet(5)", x.wet(5));
        no("wet(0)", x.wet(0));
        due("lone(0, 0)", x.lone(0, 0), NONE);
        due("alone(0, 0, 0)", x.alone(0, 0, 0), NONE);
        due("knots(1, 0, 0)", x.knots(1, 0, 0), NONE);
        due("bestKnots(1, 0)", x.bestKnots(1, 0), NONE);
        due("weather(0, 0, 0)", x.weather(0, 0, 0), NONE);
        due("skill(0, 0)", x.skill(0, 0), HIDDEN);
        due("cases(0)", x.cases(0), NONE);
        due("mixed(NONE)", x.mixed(NONE), NONE);
        due("crossed(0, 0, 0)", x.crossed(0, 0, 0), NONE);
        due("rests(0, 0, NONE)", x.rests(0, 0, NONE), NONE);
        due("leavers(9999, NONE)", x.leavers(9999, NONE), NONE);
        due("hoard(0, 0)", x.hoard(0, 0), NONE);
        due("said(0, 0)", x.said(0, 0), NONE);
        due("run()", x.run(), NONE);
        due("copy()", x.copy(), NONE);
        due("image()", x.image(), NONE);
        due("back()", x.back(), NONE);
        yes("worth(NONE)", x.worth(NONE));
        yes("seed(3)", x.seed(3));
        due("NONE", TugLake.NONE, -1);
        due("HIDDEN", TugLake.HIDDEN, -1000000);
    }

    private static void feed() {
        promise = 2;
        TugLake x = new TugLake();
        due("feed of zeros", x.feed(0, 0, 0, 0, 0), 0);
        due("feed of four bytes apart", x.feed(0x70000000, 0x003b0000, 0x00007000, 0x00000077, 0), 4);
        due("feed of a digit", x.feed(0, 0, 0, 0, 0x33), 5);
        due("the highest byte first: p;pw3", x.fault(0), NONE);
        due("text(0)", x.text(0), 2);
        due("weight", x.place(1, 0), 3);
        TugLake y = new TugLake();
        for (int i = 1; i <= 7; i++) {
            due("feed", y.feed(-1, -1, -1, -1, -1), 20 * i);
        }
        due("feed of 19", y.feed(-1, -1, -1, -1, 0x00ffffff), 159);
        due("feed of two more", y.feed(0x01010000, 0, 0, 0, 0), NONE);
        due("nothing came", y.count(4), 159);
        due("feed of one", y.feed(0, 0, 0x01000000, 0, 0), 160);
        for (int which = 0; which < 5; which++) {
            int[] one = new int[5];
            one[which] = 1;
            due("feed of one too many", y.feed(one[0], one[1], one[2], one[3], one[4]), NONE);
        }
        due("feed of nothing", y.feed(0, 0, 0, 0, 0), 160);
        due("a byte of 255 is a fault", y.fault(0), 0);
    }

    private static void end() {
        promise = 3;
        TugLake x = new TugLake();
        no("end(1)", x.end(1));
        yes("end(0)", x.end(0));
        tell(x, "p;pq");
        no("end(-1)", x.end(-1));
        no("end(5)", x.end(5));
        no("end far", x.end(FAR));
        no("end low", x.end(LOW));
        yes("end(4)", x.end(4));
        due("bytes", x.count(4), 4);
        due("fault", x.fault(0), 3);
        yes("end(3)", x.end(3));
        due("fault", x.fault(0), NONE);
        tell(x, "w2");
        due("bytes", x.count(4), 5);
        due("text(0)", x.text(0), 2);
        due("weight", x.place(1, 0), 2);
    }

    private static void lakeFaults() {
        promise = 4;
        due("fault(-1)", new TugLake().fault(-1), -2);
        due("fault(2)", new TugLake().fault(2), -2);
        due("fault far", new TugLake().fault(FAR), -2);
        String[] good = {"p;p", "pw0;p", "p;p;p;p;p;p;b", "b;p;p", "p;b;p", "bk4t99;pw9s3l3f99;pf0l0s0w0", "pw09;ps03;bk01t09",
            "  p  w  9  ;  b  k  4  ;  p  ", "p;pf00"};
        for (String text : good) {
            due(text, faultOf(text, 0), NONE);
        }
        Object[][] bad = {{"", 0}, {"   ", 3}, {"p", 1}, {"p;", 2}, {"p;b", 3}, {"b", 1}, {"p;p;", 4}, {"p;;p", 2}, {";p;p", 0},
            {"pw0;pw0", 7}, {"pw0;pw00;bk2 ", 13}, {"p;p;p;p;p;p;p", 12}, {"p;p;p;p;p;p;b;", 14}, {"p;p;p;p;p;p;b;p", 14},
            {"b;b;p;p", 2}, {"b;p;p;b", 6}, {"pk1;p", 1}, {"bw1;p;p", 1}, {"pw1w2;p", 3}, {"ps1l1s1;p", 5}, {"bk1k1;p;p", 3},
            {"pw;p", 2}, {"pw ;p", 3}, {"pw10;p", 3}, {"pw99;p", 3}, {"pw100;p", 4}, {"pw001;p", 4}, {"pw999;p", 4},
            {"ps4;p", 2}, {"ps04;p", 3}, {"ps40;p", 3}, {"pl4;p", 2}, {"pl9;p", 2}, {"pf100;p", 4}, {"pf000;p", 4}, {"bk0;p;p", 2},
            {"bk00;p;p", 3}, {"bk5;p;p", 2}, {"bk50;p;p", 3}, {"bk555;p;p", 4}, {"bt100;p;p", 4}, {"pw1 2;p", 4}, {"p p", 2},
            {"P;p", 0}, {"p;p.", 3}, {"p;pw-1", 4}, {"pw", 2}, {"p;pw", 4}, {"y:1", 0}, {"pw3f", 4}, {"p;p;bk", 6},
            {"p;p;p;p;p;p;b;  p", 16}, {"p;p;p;p;p;p;b;  b", 16}, {"p;p;p;p;p;p;b;  x", 16}, {"p;p;p;p;p;p;b;   ", 17},
            {"p;p;p;p;p;p;  p", 14}, {"b;  b", 4}, {"p  ;  ;p", 6}, {"p  x", 3}, {"pw  x", 4}, {"p;p  ;  ", 8}, {"p;p  1", 5}};
        for (Object[] row : bad) {
            due("'" + row[0] + "'", faultOf((String) row[0], 0), (Integer) row[1]);
        }
    }

    private static void fullTapes() {
        promise = 5;
        TugLake x = lake(filled("pf7;", 160).substring(0, 159) + "p");
        due("a lake of 160 bytes", x.count(0), 2);
        due("its fish", x.place(0, 3), 7);
        tell(x, filled("y:f+", 160).substring(0, 159) + "1");
        due("a worth of 160 bytes", x.text(1), 0);
        tell(x, filled("y:f+", 160).substring(0, 159) + "2");
        due("another one", x.text(1), 1);
        x.worth(0);
        due("the first one", x.place(0, 4), 8);
        x.worth(1);
        due("the other one", x.place(0, 4), 9);
        promise = 4;
        due("a fault at its end", faultOf(filled("p;p;", 160), 0), 160);
        due("a fault at its last byte", faultOf(filled("p;p", 160).substring(0, 159) + "p", 0), 159);
        due("a fault at its end", faultOf(filled("y:1+", 160), 1), 160);
        due("many clauses", faultOf("y:1;".repeat(39) + "y:22", 1), NONE);
        due("many terms", faultOf("y:" + "1+".repeat(78) + "11", 1), NONE);
        due("many atoms", faultOf("y:" + "1*".repeat(78) + "11", 1), NONE);
        due("many truths", faultOf("y:" + "1=1|".repeat(38) + "1=1?22", 1), NONE);
    }

    private static void worthFaults() {
        promise = 4;
        String[] good = {"y:0", "y:9999", "y:0000", "y:f+p-s*l/w", "y:[f]", "y:[[[[[[f]]]]]]", "y:f=1?2", "y:f<1|p>2&s=3?l;y:w",
            "y:!f=1?2", "y:!!!!!!f=1?2", "y:((((((f=1))))))?2", "y:(f=1|p=2)&!(s=1)?[f+1]*2;y:3", " y : ! ( [ f ] = 1 ) ? 2 ; y : 3 ",
            "y:f+1=p*2?1", "y:![[[[[f]]]]]=[p]?1", "y:!f=1&[[[[[[f]]]]]]=1?2", "y:[f]=[p]?1"};
        for (String text : good) {
            due(text, faultOf(text, 1), NONE);
        }
        Object[][] bad = {{"", 0}, {"  ", 2}, {"y", 1}, {"y:", 2}, {"y:1;", 4}, {"y;", 1}, {"x:1", 0}, {"y:y", 2}, {"y:12345", 6},
            {"y:00000", 6}, {"y:1 2", 4}, {"y:+1", 2}, {"y:-1", 2}, {"y:1+", 4}, {"y:1++", 4}, {"y:f)", 3}, {"y:f]", 3}, {"y:[f", 4},
            {"y:[f)", 4}, {"y:[]", 3}, {"y:[f=1]?1", 4}, {"y:(f=1)", 7}, {"y:(f=1);", 7}, {"y:(f)", 4}, {"y:(f=1?1", 6}, {"y:f=1", 5},
            {"y:f=1;", 5}, {"y:f=1=2", 5}, {"y:f=1?", 6}, {"y:f=1?2?", 7}, {"y:f=1?2=3", 7}, {"y:f|1=1?2", 3}, {"y:f=1|?2", 6},
            {"y:f=1&", 6}, {"y:f=1|p?2", 7}, {"y:!f?2", 4}, {"y:!!!!!!!f=1?2", 8}, {"y:(((((((f=1", 8}, {"y:[[[[[[[f", 8},
            {"y:![[[[[[f", 8}, {"y:!(!(!([f", 8}, {"y:f=[[[[[[[1", 10}, {"y:f=1?[[[[[[[1", 12}, {"y:1*(f=1)", 4}, {"y:f=!1", 4},
            {"y:f=1?!f=1", 6}, {"y:b", 2}, {"y:1;p", 4}, {"p;p", 0}, {"y:f==1", 4}, {"y:1;y", 5}, {"y:f<", 4}, {"y:f&", 3},
            {"y:!([!", 5}, {"y:1?", 3}, {"  x", 2}, {"y  x", 3}, {"y:  x", 4},
            {"y:f  x", 5}, {"y:f=  x", 6}, {"y:f=1  x", 7}, {"y:f=1?  x", 8}, {"y:[f  x", 6}, {"y:(f=1  x", 8}, {"y:1;  x", 6}, {"y:!  ", 5},
            {"y:!!!!!!  !", 10}, {"y:[[[[[[  [", 10}, {"y:((((((  (", 10}, {"y:1+  ", 6}, {"y:1  1", 5}, {"y:1*  +", 6}};
        for (Object[] row : bad) {
            due("'" + row[0] + "'", faultOf((String) row[0], 1), (Integer) row[1]);
        }
    }

    private static void text() {
        promise = 5;
        TugLake x = new TugLake();
        due("text(0) of nothing", x.text(0), NONE);
        due("text(1) of nothing", x.text(1), NONE);
        tell(x, "p;p;q");
        due("text(0) with a fault", x.text(0), NONE);
        due("the tape stays", x.count(4), 5);
        x.end(3);
        due("text(2)", x.text(2), NONE);
        due("text(-1)", x.text(-1), NONE);
        due("text(1) of a lake", x.text(1), NONE);
        due("text(0)", x.text(0), 2);
        due("the tape is empty", x.count(4), 0);
        for (int i = 0; i < 4; i++) {
            tell(x, "y:" + i);
            due("text(1)", x.text(1), i);
            due("the tape is empty", x.count(4), 0);
        }
        tell(x, "y:5");
        due("text(1), a fifth one", x.text(1), NONE);
        due("the tape stays", x.count(4), 3);
        due("worths", x.count(3), 4);
        due("no worth holds by itself", x.count(12), NONE);
        x.end(0);
        otherLake();
    }

    // All of another LAKE is gone but the WORTHS, which holds, and the draws.
    private static void otherLake() {
        TugLake x = lakeWith(THREE, "y:f+5");
        x.seed(0);
        x.set(0, true);
        x.set(1, true);
        x.set(2, true);
        x.set(3, true);
        x.wet(80);
        x.tugs(1111);
        x.throwTo(1, 1, 2);
        x.shelve(false, 0);
        x.shelve(true, 0);
        x.see(0, 0);
        x.wet(0);
        x.set(1, false);
        x.tugs(0);
        x.day();
        x.image();
        tell(x, "p;p;pw1f7;bk2t3");
        due("text(0)", x.text(0), 3);
        int[] counts = {3, 2, 3, 1, 0, 0, 0, 0, 0, 0, 0, 0, 0, 0};
        for (int what = 0; what < counts.length; what++) {
            due("count(" + what + ")", x.count(what), counts[what]);
        }
        due("thrown(1, 1)", x.thrown(1, 1), 0);
        due("fit(0, 0, 0)", x.fit(0, 0, 0), NONE);
        due("back()", x.back(), NONE);
        due("undo()", x.undo(), NONE);
        due("the worth holds", x.place(2, 4), 12);
        // The day ahead had drawn once (5 of 6): the second x of seed 0 gives a draw of 3 of 0.
        due("draws go on", x.day(), 15);
        due("where", x.was(0, 0), 0);
        tell(x, "p;q");
        due("text(0) with a fault", x.text(0), NONE);
        due("the lake stays", x.count(0), 3);
        due("days stay", x.count(10), 1);
    }

    private static void place() {
        promise = 6;
        TugLake x = lake("p;pw0s3l2f99;bk1");
        int[][] rows = {{1, 0, 0, 10, 10}, {0, 3, 2, 99, 99}};
        for (int place = 0; place < 2; place++) {
            for (int what = 0; what < 5; what++) {
                due("place(" + place + ", " + what + ")", x.place(place, what), rows[place][what]);
            }
        }
        yes("place(2, 0)", throwsNone(x, 2, 0));
        yes("place(-1, 0)", throwsNone(x, -1, 0));
        yes("place(0, 5)", throwsNone(x, 0, 5));
        yes("place(0, -1)", throwsNone(x, 0, -1));
        yes("place far", throwsNone(x, FAR, LOW));
    }

    private static void worth() {
        promise = 7;
        TugLake x = new TugLake();
        no("worth(0)", x.worth(0));
        no("worth(-2)", x.worth(-2));
        tell(x, "y:f*2");
        x.text(1);
        tell(x, "y:7");
        x.text(1);
        yes("worth(1) without a lake", x.worth(1));
        tell(x, "p;pf30");
        x.text(0);
        due("worth 7", x.place(1, 4), 7);
        yes("worth(0)", x.worth(0));
        due("twice", x.place(1, 4), 60);
        due("mean", x.mean(0), 10);
        yes("worth(0) again", x.worth(0));
        no("worth(2)", x.worth(2));
        no("worth far", x.worth(FAR));
        due("it holds", x.count(12), 0);
        yes("worth(NONE)", x.worth(NONE));
        due("none holds", x.count(12), NONE);
        due("fish", x.place(1, 4), 30);
        yes("worth(NONE) again", x.worth(NONE));
    }

    private static int worthAt(String worth, int place) {
        return lakeWith("pw4s1l2f20;pw9s3l3f99;pw0f0", worth).place(place, 4);
    }

    private static void worthValues() {
        promise = 7;
        Object[][] rows = {{"y:f", 0, 20}, {"y:p", 1, 1}, {"y:s", 0, 1}, {"y:l", 0, 2}, {"y:w", 0, 4}, {"y:w", 2, 0},
            {"y:2+3*4", 0, 14}, {"y:[2+3]*4", 0, 20}, {"y:20-3-4", 0, 13}, {"y:100/7/2", 0, 7}, {"y:100/7*2", 0, 28},
            {"y:5-9", 0, 0}, {"y:999+1", 0, 999}, {"y:1000", 0, 999}, {"y:998", 0, 998}, {"y:7/0", 0, 0}, {"y:7/[w-4]+1", 0, 1},
            {"y:[1-8]/2+10", 0, 7}, {"y:9999*9999-9999*50-9999*50", 0, 100}, {"y:9999*9999/1000", 0, 999}, {"y:9999*9999/2000", 0, 500},
            {"y:[0-9999*9999]/2000+600", 0, 100}, {"y:[0-9999]*[0-9999]/5000", 0, 200},
            {"y:9999*100+9999-9999*100", 0, 100}, {"y:9999*100+101-9999*100", 0, 100}, {"y:9999*100+99-9999*100", 0, 99},
            {"y:f=20?1;y:2", 0, 1}, {"y:f=20?1;y:2", 1, 2}, {"y:f<21?1", 1, 0}, {"y:f<20?1;y:3", 0, 3}, {"y:f>19?1", 0, 1},
            {"y:f>20?1;y:3", 0, 3}, {"y:1=1?5;y:1=1?6", 0, 5}, {"y:5;y:6", 0, 5}, {"y:!f=20?5;y:6", 0, 6}, {"y:!!f=20?5;y:6", 0, 5},
            {"y:1=1|1=1&1=2?5;y:6", 0, 5}, {"y:(1=1|1=1)&1=2?5;y:6", 0, 6}, {"y:1=2&1=1|1=1?5;y:6", 0, 5}, {"y:!1=2&1=2?5;y:6", 0, 6},
            {"y:!(1=2&1=2)?5;y:6", 0, 5}, {"y:!1=2|1=1?5;y:6", 0, 5}, {"y:1+1=2*1?5;y:6", 0, 5}, {"y:p=0&s=1&l=2&w=4?5;y:6", 0, 5},
            {"y:p=1|p=2?5;y:6", 2, 5}, {"y : f = 2 ? 1 ; y : f / 3", 0, 6}, {"y:[[f]]", 0, 20}};
        for (Object[] row : rows) {
            due((String) row[0], worthAt((String) row[0], (Integer) row[1]), (Integer) row[2]);
        }
        TugLake x = lakeWith("pw4s1l2f20;p", "y:10*s+l");
        x.set(0, true);
        x.set(1, true);
        due("sound and look as told, in fog and thunder too", x.place(0, 4), 12);
    }

    private static void set() {
        promise = 8;
        TugLake x = lake(THREE);
        int[] counts = {6, 7, 8, 13};
        for (int what = 0; what < 4; what++) {
            no("set false", x.set(what, false));
            yes("set true", x.set(what, true));
            due("count", x.count(counts[what]), 1);
            no("set true again", x.set(what, true));
            yes("set false again", x.set(what, false));
            due("count", x.count(counts[what]), 0);
        }
        no("set(4, true)", x.set(4, true));
        no("set(-1, true)", x.set(-1, true));
        no("set(4, false)", x.set(4, false));
    }

    private static void tugs() {
        promise = 9;
        TugLake x = lake(THREE);
        yes("tugs(2222)", x.tugs(2222));
        due("count", x.count(5), 2222);
        yes("tugs(120)", x.tugs(120));
        due("count", x.count(5), 120);
        int[] bad = {3, 30, 300, 3000, 9999, 10000, -1, 12222, FAR, LOW};
        for (int tugs : bad) {
            no("tugs(" + tugs + ")", x.tugs(tugs));
        }
        due("nothing changed", x.count(5), 120);
        yes("tugs(0)", x.tugs(0));
        yes("three is below four", lake("p;p;bk4").tugs(3333));
        no("one sign", lake("p;p;bk1").tugs(1));
        yes("two signs if none are told", lake("p;p").tugs(1111));
    }

    private static void throwing() {
        promise = 10;
        TugLake x = lake(THREE);
        for (int look = 0; look < 4; look++) {
            for (int sign = 0; sign < 3; sign++) {
                due("thrown", x.thrown(look, sign), 0);
                yes("throwTo", x.throwTo(look, sign, (look + sign) % 3));
            }
        }
        promise = 11;
        for (int look = 0; look < 4; look++) {
            for (int sign = 0; sign < 3; sign++) {
                due("thrown", x.thrown(look, sign), (look + sign) % 3);
            }
        }
        int[][] bad = {{4, 0, 0}, {-1, 0, 0}, {0, 3, 0}, {0, -1, 0}, {FAR, 0, 0}, {0, LOW, 0}};
        for (int[] row : bad) {
            promise = 10;
            no("throwTo", x.throwTo(row[0], row[1], row[2]));
            promise = 11;
            due("thrown", x.thrown(row[0], row[1]), NONE);
        }
        promise = 10;
        no("throwTo(0, 0, 3)", x.throwTo(0, 0, 3));
        no("throwTo(0, 0, -1)", x.throwTo(0, 0, -1));
        due("nothing changed", x.thrown(0, 0), 0);
    }

    private static void answers() {
        promise = 12;
        TugLake x = lake(THREE);
        x.tugs(120);
        x.throwTo(3, 2, 2);
        yes("answer()", x.answer());
        int[][] want = {{0, 0, 0}, {1, 2, 1}, {0, 0, 0}, {0, 0, 0}};
        for (int look = 0; look < 4; look++) {
            for (int sign = 0; sign < 3; sign++) {
                due("thrown(" + look + ", " + sign + ")", x.thrown(look, sign), want[look][sign]);
            }
        }
        promise = 13;
        x.throwTo(1, 1, 0);
        due("answerTo does not ask THROWS", x.answerTo(1, 1), 2);
        due("nor change them", x.thrown(1, 1), 0);
        x.tugs(0);
        due("of two as good the lowest", x.answerTo(1, 0), 1);
        due("nothing comes so", x.answerTo(1, 1), 0);
        x.set(0, true);
        due("in fog, look 0", x.answerTo(0, 0), 0);
        due("in fog, look 1", x.answerTo(1, 0), 0);
        x.set(0, false);
        x.set(1, true);
        x.tugs(2110);
        due("in thunder sound 0 is heard", x.answerTo(1, 2), 1);
        due("in thunder no other", x.answerTo(1, 1), 0);
        due("no such look", x.answerTo(4, 0), NONE);
        due("no such look", x.answerTo(-1, 0), NONE);
        due("no such sign", x.answerTo(0, 3), NONE);
        due("no such sign", x.answerTo(0, -1), NONE);
        TugLake y = lake("pw0f99;pf0;pw3f4;pw2f6");
        due("weight and fish count, the lowest of 12 and 12", y.answerTo(0, 0), 2);
        TugLake z = lake("ps1;p;bk2t99");
        z.tugs(100);
        due("99 of 100 are less than all", z.answerTo(0, 0), 1);
        TugLake little = lake("pf0;ps1f1;bk2t1");
        little.tugs(100);
        due("1 of 100 is more than nothing", little.answerTo(0, 0), 1);
        TugLake last = lake("p;ps1l3;bk4");
        last.tugs(300);
        due("the last look and sign", last.answerTo(3, 3), 1);
    }

    private static void mean() {
        promise = 14;
        TugLake x = lake(THREE);
        due("above", x.mean(0), 20);
        due("below", x.mean(1), 3);
        x.tugs(120);
        x.answer();
        due("above", x.mean(0), 185);
        due("below", x.mean(1), 12);
        x.throwTo(1, 0, 2);
        // Place 1 is lost a quarter now, place 2 always caught.
        due("above", x.mean(0), 185);
        x.set(0, true);
        due("in fog above", x.mean(0), 20);
        due("in fog below", x.mean(1), 3);
        x.set(0, false);
        x.set(1, true);
        due("in thunder above", x.mean(0), 35);
        x.throwTo(0, 0, 1);
        x.throwTo(1, 0, 0);
        due("nothing: 0", x.mean(0), 0);
        due("by 1", x.mean(1), 1);
        due("mean(2)", x.mean(2), NONE);
        due("mean(-1)", x.mean(-1), NONE);
        TugLake y = lakeWith("pw9;pw9", "y:999");
        due("the most", y.mean(0), 999);
        due("by two", y.mean(1), 2);
    }

    private static void tongue() {
        promise = 15;
        TugLake x = lake(THREE);
        int[][] want = {{0, 35, 3}, {10, 185, 12}, {10, 185, 12}, {10, 185, 12}};
        for (int k = 1; k <= 4; k++) {
            for (int what = 0; what < 3; what++) {
                due("tongue(" + k + ", " + what + ")", x.tongue(k, what), want[k - 1][what]);
            }
        }
        due("tugs stay", x.count(5), 0);
        x.set(0, true);
        due("in fog", x.tongue(3, 1), 125);
        x.set(1, true);
        due("in both", x.tongue(3, 1), 20);
        x.set(0, false);
        due("in thunder", x.tongue(3, 1), 35);
        due("tongue(0, 0)", x.tongue(0, 0), NONE);
        due("tongue(5, 0)", x.tongue(5, 0), NONE);
        due("tongue(1, 3)", x.tongue(1, 3), NONE);
        due("tongue(1, -1)", x.tongue(1, -1), NONE);
        TugLake y = lake("ps3;ps2;ps1;ps0;bk1");
        due("four signs in place of the one told", y.tongue(4, 0), 123);
        due("all are caught", y.tongue(4, 1), 10);
        due("two signs", y.tongue(2, 0), 1);
        due("half is caught", y.tongue(2, 1), 5);
    }

    private static void sense() {
        promise = 16;
        TugLake x = lake(THREE);
        x.set(0, true);
        due("clear", x.sense(false, false, 0), 185);
        due("clear", x.sense(false, false, 1), 12);
        due("fog", x.sense(true, false, 0), 125);
        due("fog", x.sense(true, false, 1), 12);
        due("thunder", x.sense(false, true, 0), 35);
        due("thunder", x.sense(false, true, 1), 3);
        due("both", x.sense(true, true, 0), 20);
        due("both", x.sense(true, true, 1), 3);
        due("no such part", x.sense(true, true, 2), NONE);
        due("no such part", x.sense(true, true, -1), NONE);
        due("the signs told", lake("ps1;ps2;bk1").sense(false, false, 0), 5);
        due("fog stays as it is", x.count(6), 1);
    }

    private static void settledAndWorst() {
        promise = 17;
        TugLake x = lake("ps1;ps2f30");
        int[] want = {10, 11, 100, 101, 1010, 1011, 1100, 1101};
        due("how many", x.settled(NONE), 8);
        for (int i = 0; i < 8; i++) {
            due("settled(" + i + ")", x.settled(i), want[i]);
        }
        due("settled(8)", x.settled(8), NONE);
        due("settled(-2)", x.settled(-2), NONE);
        due("settled far", x.settled(FAR), NONE);
        promise = 18;
        due("worst", x.worst(0), 20);
        due("worst", x.worst(1), 1);
        due("worst(2)", x.worst(2), NONE);
        due("worst(-1)", x.worst(-1), NONE);
        TugLake y = lake("ps1;ps2");
        promise = 17;
        due("all of them: the throws do not ask the sign", y.settled(NONE), 16);
        promise = 18;
        due("worst, not best", y.worst(0), 5);
        due("worst, not best", y.worst(1), 1);
        promise = 17;
        x.set(1, true);
        // In thunder all is heard as 0: the throw for the other sign goes to place 0, which is worth less.
        due("in thunder", x.settled(NONE), 16);
        promise = 18;
        due("in thunder", x.worst(0), 15);
        promise = 17;
        due("one sign", lake("ps1;ps2;bk1").settled(NONE), 1);
        due("four signs, no sound worth hearing", lake("ps1f0;ps2f0;bk4").settled(NONE), 256);
        due("the last one", lake("ps1f0;ps2f0;bk4").settled(255), 3333);
    }

    private static void code() {
        promise = 19;
        TugLake x = new TugLake();
        int[][] tugs = {{1, 0, 1}, {1, 3, 1}, {2, 0, 1}, {3, 0, 2}, {4, 0, 2}, {5, 0, 3}, {16, 0, 4}, {2, 1, 2}, {3, 1, 3}, {4, 1, 3},
            {5, 1, 4}, {16, 1, 5}, {2, 2, 3}, {4, 2, 5}, {5, 2, 6}, {8, 2, 6}, {9, 2, 7}, {16, 2, 7}, {2, 3, 4}, {16, 3, 8}};
        for (int[] row : tugs) {
            due("code(" + row[0] + ", " + row[1] + ", NONE)", x.code(row[0], row[1], NONE), row[2]);
        }
        int[] words = {0, 3, 5, 6};
        for (int i = 0; i < 4; i++) {
            due("code(4, 1, i)", x.code(4, 1, i), words[i]);
        }
        due("code(4, 1, 4)", x.code(4, 1, 4), NONE);
        due("of the first m alone", x.code(3, 1, 3), NONE);
        due("code(3, 1, 2)", x.code(3, 1, 2), 5);
        due("code(16, 0, 15)", x.code(16, 0, 15), 15);
        due("code(16, 3, 15)", x.code(16, 3, 15), 255);
        due("code(1, 0, 0)", x.code(1, 0, 0), 0);
        int[][] bad = {{0, 0, NONE}, {17, 0, NONE}, {1, -1, NONE}, {1, 4, NONE}, {4, 0, -2}, {4, 0, FAR}, {-1, 0, 0}, {LOW, FAR, 0}};
        for (int[] row : bad) {
            due("no such code", x.code(row[0], row[1], row[2]), NONE);
        }
    }

    // TUGS 120 on shelf 0, 0 on shelf 1; on shelf 0 of THROWS the ANSWER to 120, on shelf 1 all to place 0.
    private static TugLake shelved() {
        TugLake x = lake(THREE);
        x.shelve(false, 1);
        x.shelve(true, 1);
        x.tugs(120);
        x.answer();
        x.shelve(false, 0);
        x.shelve(true, 0);
        return x;
    }

    private static void shelvesAndFit() {
        promise = 20;
        TugLake x = shelved();
        no("shelve(false, 4)", x.shelve(false, 4));
        no("shelve(true, -1)", x.shelve(true, -1));
        no("shelve(true, far)", x.shelve(true, FAR));
        x.tugs(222);
        x.throwTo(0, 0, 1);
        promise = 21;
        int[][] above = {{185, 20}, {35, 20}};
        int[][] below = {{12, 3}, {3, 3}};
        for (int one = 0; one < 2; one++) {
            for (int other = 0; other < 2; other++) {
                due("fit " + one + other, x.fit(one, other, 0), above[one][other]);
                due("fit " + one + other, x.fit(one, other, 1), below[one][other]);
            }
        }
        int[][] bad = {{2, 0, 0}, {0, 2, 0}, {4, 0, 0}, {0, 4, 0}, {-1, 0, 0}, {0, -1, 0}, {0, 0, 2}, {0, 0, -1}, {FAR, LOW, 0}};
        for (int[] row : bad) {
            due("no such fit", x.fit(row[0], row[1], row[2]), NONE);
        }
        promise = 20;
        yes("shelve again", x.shelve(false, 0));
        // TUGS 222: sound 1 and 2 both tug 2: (1, 2) goes to place 1, place 0 is caught by look 0.
        promise = 21;
        due("another one is there", x.fit(0, 0, 0), 35);
        x.set(0, true);
        due("in fog", x.fit(1, 0, 0), 20);
    }

    private static void pair() {
        promise = 22;
        TugLake x = shelved();
        due("pair(0)", x.pair(0), 0);
        due("pair(1)", x.pair(1), 1);
        due("empty", x.pair(2), NONE);
        due("no such one", x.pair(4), NONE);
        due("no such one", x.pair(-1), NONE);
        x.shelve(false, 2);
        due("as good as shelf 0, but behind it: what is left is as good for 1", x.pair(2), NONE);
        due("pair(1)", x.pair(1), 1);
        x.shelve(true, 2);
        due("pair(0)", x.pair(0), 0);
        due("pair(2)", x.pair(2), 2);
        due("pair(1)", x.pair(1), 1);
        TugLake y = lake(THREE);
        y.shelve(false, 3);
        due("no throws", y.pair(3), NONE);
        y.throwTo(0, 0, 1);
        y.throwTo(1, 0, 0);
        y.shelve(true, 3);
        due("the only ones, though nothing is caught", y.pair(3), 3);
    }

    private static void seeAndMeant() {
        promise = 23;
        TugLake x = lake("ps1;ps2f30;bk2");
        promise = 24;
        due("nothing seen", x.meant(NONE), 16);
        due("the last one", x.meant(15), 1111);
        promise = 23;
        due("see", x.see(0, 0), 1);
        promise = 24;
        due("both signs throw there", x.meant(NONE), 16);
        x.throwTo(0, 1, 1);
        due("one sign alone", x.meant(NONE), 8);
        promise = 23;
        due("see", x.see(1, 1), 2);
        promise = 24;
        int[] want = {10, 11, 1010, 1011};
        due("how many", x.meant(NONE), 4);
        for (int i = 0; i < 4; i++) {
            due("meant(" + i + ")", x.meant(i), want[i]);
        }
        due("meant(4)", x.meant(4), NONE);
        due("meant(-2)", x.meant(-2), NONE);
        x.wet(50);
        due("none is lost there", x.meant(NONE), 4);
        x.set(1, true);
        due("in thunder one sign would be two", x.meant(NONE), 0);
        due("none", x.meant(0), NONE);
        promise = 23;
        int[][] bad = {{2, 0}, {0, 2}, {-1, 0}, {0, -1}, {FAR, 0}};
        for (int[] row : bad) {
            due("no such places", x.see(row[0], row[1]), NONE);
        }
        for (int i = 3; i <= 20; i++) {
            due("see", x.see(0, 0), i);
        }
        due("a 21st", x.see(0, 0), NONE);
        due("count", x.count(9), 20);
    }

    // Draws of seed 0, by turns of 6 and of 100: 5 24, 1 36, 5 91, 2 75, 0 39.
    private static void seedAndDay() {
        promise = 26;
        TugLake x = lake(THREE);
        x.tugs(120);
        x.answer();
        int[][] want = {{2, 0, 0}, {0, 1, 20}, {2, 1, 10}, {1, 2, 30}, {0, 1, 20}};
        for (int day = 0; day < want.length; day++) {
            due("day " + day, x.day(), want[day][2]);
        }
        promise = 27;
        for (int day = 0; day < want.length; day++) {
            for (int what = 0; what < 3; what++) {
                due("was(" + day + ", " + what + ")", x.was(day, what), want[day][what]);
            }
        }
        promise = 25;
        yes("seed(1)", x.seed(1));
        x.tugs(0);
        // By draws of 6 alone seed 1 gives 2 3 0; sign 0 is never lost, nothing is drawn for it.
        x.day();
        x.day();
        x.day();
        int[] where = {1, 2, 0};
        for (int i = 0; i < 3; i++) {
            due("where", x.was(5 + i, 0), where[i]);
            due("sign", x.was(5 + i, 1), 0);
        }
        yes("seed(-5)", x.seed(-5));
        x.day();
        x.day();
        due("where", x.was(8, 0), 1);
        due("where", x.was(9, 0), 0);
        promise = 26;
        // A sign above 0 is drawn for though nothing can be lost.
        x.wet(0);
        x.seed(0);
        x.tugs(120);
        due("24 is not below 0", x.day(), 10);
        due("the draw was taken", x.day(), 20);
        for (int i = 13; i <= 40; i++) {
            yes("day", x.day() >= 0);
            due("days", x.count(10), i);
        }
        due("a 41st", x.day(), NONE);
        due("days", x.count(10), 40);
        int there = x.was(39, 0);
        due("undo() of the 40th", x.undo(), 39);
        x.day();
        due("the same again", x.was(39, 0), there);
        due("tugs and throws are as ahead of the 40th", 10 * x.count(5) + x.thrown(1, 1), 1202);
        fogAndThunderDays();
    }

    private static void fogAndThunderDays() {
        promise = 26;
        TugLake z = lake(THREE);
        z.tugs(120);
        z.wet(24);
        z.day();
        due("24 is not below 24", z.was(0, 1), 1);
        TugLake x = lake(THREE);
        x.wet(0);
        x.tugs(2110);
        x.throwTo(1, 2, 2);
        x.set(1, true);
        // The first day of seed 0 is at place 2: in thunder sign 2 comes there.
        due("in thunder", x.day(), 10);
        due("sign", x.was(0, 1), 2);
        x.undo();
        x.set(0, true);
        due("in fog look 0 is seen", x.day(), 0);
        x.undo();
        x.throwTo(0, 2, 2);
        due("in fog look 0 is seen", x.day(), 10);
        TugLake y = lakeWith(THREE, "y:f*10");
        y.throwTo(1, 0, 2);
        due("what it is worth", y.day(), 100);
        promise = 49;
        due("what was caught on the first day", y.count(11), 100);
    }

    private static void wasAndUndo() {
        promise = 27;
        TugLake x = lake(THREE);
        x.set(2, true);
        x.day();
        due("was(1, 0)", x.was(1, 0), NONE);
        due("was(-1, 0)", x.was(-1, 0), NONE);
        due("was(0, 3)", x.was(0, 3), NONE);
        due("was(0, -1)", x.was(0, -1), NONE);
        due("was far", x.was(FAR, LOW), NONE);
        promise = 28;
        due("the deaf has learnt", x.thrown(1, 0), 2);
        x.day();
        due("undo()", x.undo(), 1);
        due("what was learnt ahead stays", x.thrown(1, 0), 2);
        due("was", x.was(1, 0), NONE);
        x.throwTo(3, 2, 1);
        x.seed(77);
        due("undo()", x.undo(), 0);
        due("throws are as ahead", x.thrown(1, 0), 0);
        due("all throws are as ahead", x.thrown(3, 2), 0);
        due("undo()", x.undo(), NONE);
        due("days", x.count(10), 0);
        due("draws are as ahead", x.day(), 0);
        due("where", x.was(0, 0), 2);
        due("learnt again", x.thrown(1, 0), 2);
        x.set(0, true);
        x.wet(3);
        x.undo();
        due("fog stays", x.count(6), 1);
        due("lost stays", x.count(2), 3);
        due("learning stays", x.count(8), 1);
    }

    private static void wet() {
        promise = 29;
        TugLake x = lake(THREE);
        no("wet(25)", x.wet(25));
        no("wet(-1)", x.wet(-1));
        no("wet(100)", x.wet(100));
        no("wet far", x.wet(FAR));
        yes("wet(99)", x.wet(99));
        due("lost", x.count(2), 99);
        x.tugs(120);
        x.answer();
        // Place 2 is caught once in a hundred now: 40 and 30 always.
        due("mean", x.mean(0), 703);
        due("mean", x.mean(1), 60);
        yes("wet(0)", x.wet(0));
        x.answer();
        due("mean", x.mean(0), 50);
        due("mean", x.mean(1), 3);
        no("wet(0) again", x.wet(0));
    }

    private static void lone() {
        promise = 30;
        TugLake x = lake(THREE);
        int[][] want = {{35, 3}, {35, 3}, {50, 3}};
        for (int who = 0; who < 3; who++) {
            due("lone(" + who + ", 0)", x.lone(who, 0), want[who][0]);
            due("lone(" + who + ", 1)", x.lone(who, 1), want[who][1]);
        }
        x.set(0, true);
        due("in fog who hears", x.lone(0, 0), 35);
        due("in fog who sees", x.lone(1, 0), 20);
        due("in fog a half fish", x.lone(2, 0), 35);
        x.set(1, true);
        due("in both who hears", x.lone(0, 0), 20);
        due("in both a half fish", x.lone(2, 0), 20);
        x.set(0, false);
        due("in thunder who sees", x.lone(1, 0), 35);
        due("lone(3, 0)", x.lone(3, 0), NONE);
        due("lone(-1, 0)", x.lone(-1, 0), NONE);
        due("lone(0, 2)", x.lone(0, 2), NONE);
        due("lone(0, -1)", x.lone(0, -1), NONE);
        TugLake y = lake("pf0s1;pf0");
        due("nothing", y.lone(2, 0), 0);
        due("by 1", y.lone(2, 1), 1);
    }

    private static void alone() {
        promise = 31;
        TugLake x = lake(THREE);
        due("who hears 1", x.alone(0, 1, 3), 0);
        due("who hears 2", x.alone(0, 2, 0), 1);
        due("who hears what is never so", x.alone(0, 3, 1), 0);
        due("who sees 1, of two as good", x.alone(1, 3, 1), 1);
        due("a half fish", x.alone(2, 1, 1), 2);
        due("a half fish", x.alone(2, 2, 1), 1);
        due("a half fish, never so", x.alone(2, 2, 0), 0);
        x.set(1, true);
        due("in thunder 2 is not heard", x.alone(0, 2, 0), 0);
        due("in thunder a half fish", x.alone(2, 0, 1), 1);
        x.set(0, true);
        due("in fog 1 is not seen", x.alone(1, 0, 1), 0);
        int[][] bad = {{3, 0, 0}, {-1, 0, 0}, {0, 4, 0}, {0, -1, 0}, {1, 4, 0}, {1, 0, 4}, {0, 0, 4}, {0, 0, -1}, {FAR, LOW, 0}};
        for (int[] row : bad) {
            due("no such ones", x.alone(row[0], row[1], row[2]), NONE);
        }
    }

    private static void knots() {
        promise = 32;
        TugLake x = lake(THREE);
        long[][] want = {{1, 0, 35, 3}, {1, 10, 185, 12}, {2, 120, 185, 12}, {2, 30, 785, 48}, {2, 300, 785, 48}, {3, 70, 3185, 192},
            {3, 0, 35, 3}, {2, 3033, 785, 48}};
        for (long[] row : want) {
            due("knots " + row[0] + " " + row[1], x.knots((int) row[0], (int) row[1], 0), row[2]);
            due("knots " + row[0] + " " + row[1], x.knots((int) row[0], (int) row[1], 1), row[3]);
        }
        int[][] bad = {{0, 0, 0}, {4, 0, 0}, {1, 2, 0}, {1, 2000, 0}, {2, 40, 0}, {3, 8, 0}, {3, 10000, 0}, {3, -1, 0}, {1, 0, 2},
            {1, 0, -1}, {LOW, FAR, 0}};
        for (int[] row : bad) {
            due("no such knots", x.knots(row[0], row[1], row[2]), NONE);
        }
        x.set(0, true);
        due("in fog", x.knots(1, 10, 0), 125);
        x.set(1, true);
        due("in both", x.knots(1, 10, 0), 20);
        TugLake y = lakeWith("pw9s1;pw9s2;pw9s3;pw9;b t1", "y:997");
        // Words 7, 0, 1 and 2: of a million, sound 1 is caught always, 2 and 3 unless their long tug is lost,
        // and 0 unless it comes as one of these: once as 0, 99 times as 1, 99 times as 2.
        due("big numbers", y.knots(3, 7012, 0), 997L * (1000000 + 990000 + 990000 + 1000000 - 1 - 99 - 99));
        due("big numbers", y.knots(3, 7012, 1), 4000000);
    }

    private static void bestKnots() {
        promise = 33;
        TugLake x = lake(THREE);
        long[][] want = {{10, 185, 12}, {30, 785, 48}, {70, 3185, 192}};
        for (int n = 1; n <= 3; n++) {
            for (int what = 0; what < 3; what++) {
                due("bestKnots(" + n + ", " + what + ")", x.bestKnots(n, what), want[n - 1][what]);
            }
        }
        x.set(1, true);
        due("in thunder", x.bestKnots(3, 0), 0);
        due("in thunder", x.bestKnots(3, 1), 35);
        due("bestKnots(0, 0)", x.bestKnots(0, 0), NONE);
        due("bestKnots(4, 0)", x.bestKnots(4, 0), NONE);
        due("bestKnots(1, 3)", x.bestKnots(1, 3), NONE);
        due("bestKnots(1, -1)", x.bestKnots(1, -1), NONE);
        due("none lost, the least words", lake("ps0;ps1;ps2;ps3").bestKnots(2, 0), 123);
    }

    private static void weather() {
        promise = 34;
        TugLake x = lake(THREE);
        x.tugs(120);
        x.answer();
        x.set(0, true);
        long[][] want = {{0, 0, 185, 12}, {50, 0, 265, 24}, {0, 100, 35, 3}, {20, 50, 73, 6}, {100, 100, 20, 3}, {100, 0, 20, 3},
            {1, 1, 367009, 24000}};
        for (long[] row : want) {
            due("weather " + row[0] + " " + row[1], x.weather((int) row[0], (int) row[1], 0), row[2]);
            due("weather " + row[0] + " " + row[1], x.weather((int) row[0], (int) row[1], 1), row[3]);
        }
        int[][] bad = {{-1, 0, 0}, {101, 0, 0}, {0, -1, 0}, {0, 101, 0}, {0, 0, 2}, {0, 0, -1}, {FAR, FAR, 0}};
        for (int[] row : bad) {
            due("out of bounds", x.weather(row[0], row[1], row[2]), NONE);
        }
    }

    private static void skill() {
        promise = 35;
        TugLake x = lake(THREE);
        x.set(1, true);
        int[][] want = {{5, 1}, {15, 4}, {35, 4}};
        for (int what = 0; what < 3; what++) {
            due("skill(" + what + ", 0)", x.skill(what, 0), want[what][0]);
            due("skill(" + what + ", 1)", x.skill(what, 1), want[what][1]);
        }
        due("skill(3, 0)", x.skill(3, 0), HIDDEN);
        due("skill(-1, 0)", x.skill(-1, 0), HIDDEN);
        due("skill(0, 2)", x.skill(0, 2), HIDDEN);
        due("skill(0, -1)", x.skill(0, -1), HIDDEN);
        due("none: 0", lake("p;p").skill(2, 0), 0);
        due("by 1", lake("p;p").skill(2, 1), 1);
    }

    private static void cases() {
        promise = 36;
        TugLake x = lake(THREE);
        x.tugs(120);
        x.answer();
        due("always", x.cases(0), 3);
        due("by chance", x.cases(1), 4);
        x.throwTo(1, 1, 0);
        x.throwTo(1, 0, 2);
        // Place 1 by its sign alone, place 2 by a lost one alone.
        due("always", x.cases(0), 1);
        due("by chance", x.cases(1), 6);
        x.wet(0);
        due("nothing is lost: always", x.cases(0), 3);
        due("nothing is lost: by chance", x.cases(1), 0);
        x.set(0, true);
        due("in fog", x.cases(0), 1);
        x.set(0, false);
        x.wet(99);
        due("1 of 100 is by chance, too", x.cases(1), 6);
        due("cases(2)", x.cases(2), NONE);
        due("cases(-1)", x.cases(-1), NONE);
        due("no weight", lake("pw0;p").cases(0), 0);
    }

    private static void mixed() {
        promise = 37;
        TugLake x = lake(THREE);
        due("none", x.mixed(NONE), 0);
        due("none", x.mixed(0), NONE);
        x.set(0, true);
        due("in fog", x.mixed(NONE), 1);
        due("in fog", x.mixed(0), 10);
        x.set(0, false);
        x.set(1, true);
        due("in thunder", x.mixed(0), 1);
        due("mixed(1)", x.mixed(1), NONE);
        due("mixed(-2)", x.mixed(-2), NONE);
        TugLake y = lake("ps3l2;ps3l2;ps1l3;ps1l3;pw0;pw1");
        due("two", y.mixed(NONE), 2);
        due("rising", y.mixed(0), 13);
        due("rising", y.mixed(1), 32);
        due("no more", y.mixed(2), NONE);
    }

    private static void crossed() {
        promise = 38;
        TugLake x = shelved();
        long[][] want = {{0, 11, 145, 12}, {11, 0, 10, 3}, {0, 0, 785, 96}, {0, 1, 145, 12}, {10, 11, 25, 3}};
        for (long[] row : want) {
            due("crossed " + row[0] + " " + row[1], x.crossed((int) row[0], (int) row[1], 0), row[2]);
            due("crossed " + row[0] + " " + row[1], x.crossed((int) row[0], (int) row[1], 1), row[3]);
        }
        int[][] bad = {{2, 0, 0}, {20, 0, 0}, {0, 2, 0}, {0, 20, 0}, {4, 0, 0}, {40, 0, 0}, {100, 0, 0}, {-1, 0, 0}, {-10, 0, 0}, {0, -1, 0},
            {0, 0, 2}, {0, 0, -1}, {FAR, LOW, 0}};
        for (int[] row : bad) {
            due("no such boats", x.crossed(row[0], row[1], row[2]), NONE);
        }
        TugLake y = lake("pf15;pw0f15");
        y.shelve(false, 3);
        y.shelve(true, 3);
        due("half of it, cut", y.crossed(33, 33, 0), 7);
        due("by 1", y.crossed(33, 33, 1), 1);
    }

    private static void rests() {
        promise = 39;
        TugLake x = lake("pf20;pf20");
        x.shelve(false, 0);
        x.shelve(false, 2);
        due("no throws: none", x.rests(0, 2, NONE), 0);
        due("no throws: none", x.rests(0, 2, 0), NONE);
        x.shelve(true, 1);
        x.throwTo(0, 0, 1);
        x.shelve(true, 3);
        due("how many", x.rests(0, 0, NONE), 2);
        due("rests 0", x.rests(0, 2, 0), 13);
        due("rests 1", x.rests(0, 2, 1), 31);
        due("rests 2", x.rests(0, 2, 2), NONE);
        due("rests -2", x.rests(0, 2, -2), NONE);
        due("empty", x.rests(1, 0, NONE), NONE);
        due("empty", x.rests(0, 1, NONE), NONE);
        due("no such", x.rests(4, 0, NONE), NONE);
        due("no such", x.rests(0, -1, NONE), NONE);
        TugLake y = lake("pf21;pf10");
        y.shelve(false, 0);
        y.shelve(true, 0);
        y.throwTo(0, 0, 1);
        y.shelve(true, 1);
        // Half of 21, cut, is 10: as much as the other place alone, so three rest and both at the lesser place do not.
        due("how many", y.rests(0, 0, NONE), 3);
        due("first", y.rests(0, 0, 0), 0);
        due("last", y.rests(0, 0, 2), 10);
        TugLake z = shelved();
        due("one throws better", z.rests(0, 0, NONE), 1);
        due("one throws better", z.rests(0, 0, 0), 0);
    }

    private static void leavers() {
        promise = 40;
        TugLake x = shelved();
        due("none", x.leavers(199, NONE), 0);
        due("none", x.leavers(199, 0), NONE);
        due("one", x.leavers(1099, NONE), 1);
        due("one", x.leavers(1099, 0), 0);
        due("two", x.leavers(9099, NONE), 2);
        due("two", x.leavers(9099, 0), 0);
        due("two", x.leavers(9099, 1), 1);
        due("no more", x.leavers(9099, 2), NONE);
        due("all", x.leavers(9999, NONE), 4);
        due("rising", x.leavers(9999, 2), 10);
        due("rising", x.leavers(9999, 3), 11);
        due("leavers -2", x.leavers(9999, -2), NONE);
        int[] bad = {99, 9929, 2999, 4999, 8999, 9919, 9991, 10000, 19999, -1, 0, FAR, LOW};
        for (int row : bad) {
            due("no such row " + row, x.leavers(row, NONE), NONE);
        }
    }

    private static void readAndSpread() {
        promise = 41;
        TugLake x = new TugLake();
        int[][] want = {{3, 1, 0, 0}, {3, 1, 3, 1}, {3, 1, 5, 2}, {3, 1, 1, NONE}, {3, 1, 6, NONE}, {3, 1, 7, NONE}, {4, 2, 24, 2},
            {4, 2, 31, 3}, {4, 2, 1, 0}, {4, 2, 11, NONE}, {1, 3, 1, 0}, {16, 0, 13, 13}, {2, 3, 14, 1}, {2, 3, 8, 0}, {2, 3, 12, NONE}};
        for (int[] row : want) {
            due("read " + row[0] + " " + row[1] + " " + row[2], x.read(row[0], row[1], row[2]), row[3]);
        }
        int[][] bad = {{3, 1, 8}, {3, 1, -1}, {1, 0, 2}, {0, 0, 0}, {17, 0, 0}, {2, -1, 0}, {2, 4, 0}, {2, 0, FAR}, {2, 0, LOW}};
        for (int[] row : bad) {
            due("no such ones", x.read(row[0], row[1], row[2]), NONE);
        }
        promise = 42;
        int[][] spreads = {{2, 0, 1}, {2, 1, 2}, {3, 1, 2}, {2, 2, 3}, {16, 2, 3}, {2, 3, 4}, {16, 3, 4}, {1, 0, NONE}, {1, 3, NONE},
            {0, 0, NONE}, {17, 0, NONE}, {2, -1, NONE}, {2, 4, NONE}};
        for (int[] row : spreads) {
            due("spread " + row[0] + " " + row[1], x.spread(row[0], row[1]), row[2]);
        }
    }

    // TUGS 0, the deaf learns; draws of 6 of seed 0: 5 0 1 4 5 5 2 5 0 3.
    private static void daysReckoned() {
        promise = 26;
        TugLake x = lake(THREE);
        promise = 45;
        due("no days", x.run(), 0);
        promise = 26;
        x.set(2, true);
        int[] caught = {0, 20, 20, 10, 10, 10, 0, 0, 20, 10};
        for (int i = 0; i < caught.length; i++) {
            due("day " + i, x.day(), caught[i]);
        }
        due("learnt", x.thrown(1, 0), 2);
        due("nothing else learnt", x.thrown(0, 0), 0);
        promise = 43;
        int[][] hoards = {{60, 3}, {0, 1}, {40, 6}};
        for (int place = 0; place < 3; place++) {
            due("hoard(" + place + ", 0)", x.hoard(place, 0), hoards[place][0]);
            due("hoard(" + place + ", 1)", x.hoard(place, 1), hoards[place][1]);
        }
        due("no such place", x.hoard(3, 0), NONE);
        due("no such place", x.hoard(-1, 0), NONE);
        due("no such what", x.hoard(0, 2), NONE);
        due("no such what", x.hoard(0, -1), NONE);
        promise = 44;
        due("said(1, 0)", x.said(1, 0), 9);
        due("said(2, 0)", x.said(2, 0), 1);
        due("said(0, 0)", x.said(0, 0), 0);
        due("said(3, 3)", x.said(3, 3), 0);
        due("said(4, 0)", x.said(4, 0), NONE);
        due("said(0, 4)", x.said(0, 4), NONE);
        due("said(-1, 0)", x.said(-1, 0), NONE);
        due("said(0, -1)", x.said(0, -1), NONE);
        x.set(1, true);
        due("thunder is not asked", x.said(1, 0), 9);
        promise = 45;
        due("run()", x.run(), 2);
        promise = 49;
        due("caught in all", x.count(11), 100);
        promise = 45;
        TugLake y = lakeWith(THREE, "y:0");
        y.throwTo(1, 0, 2);
        y.set(2, true);
        y.day();
        y.day();
        due("worth nothing is a day without a catch", y.run(), 2);
        promise = 26;
        due("a throw that was there teaches nothing", y.thrown(1, 0), 2);
    }

    // Draws of seed 0, by turns of 6 and of 100: 5 24, 1 36, 5 91.
    private static void blindLearns() {
        promise = 26;
        TugLake x = lake(THREE);
        x.tugs(120);
        x.set(3, true);
        x.set(2, true);
        due("elsewhere", x.day(), 0);
        due("sound 1 tugs the next sign", x.count(5), 220);
        due("the deaf learns by the sign that came", x.thrown(1, 0), 2);
        due("not by the one tugged", x.thrown(1, 1), 0);
        due("caught", x.day(), 20);
        due("nothing is learnt by a catch", x.count(5), 220);
        due("elsewhere", x.day(), 0);
        due("behind the last sign 0", x.count(5), 20);
        due("learnt", x.thrown(1, 2), 2);
        promise = 28;
        due("undo()", x.undo(), 2);
        due("tugs are as ahead", x.count(5), 220);
        due("throws are as ahead", x.thrown(1, 2), 0);
        x.tugs(1);
        due("undo()", x.undo(), 1);
        due("tugs are as ahead of that day", x.count(5), 220);
        due("undo()", x.undo(), 0);
        due("tugs are as ahead of all", x.count(5), 120);
        promise = 26;
        x.set(1, true);
        x.day();
        due("in thunder sound 0 is heard", x.count(5), 1120);
    }

    private static void copy() {
        promise = 46;
        TugLake x = lake(THREE);
        x.tugs(120);
        due("copy()", x.copy(), 9);
        x.answer();
        due("all of them", x.copy(), 12);
        x.throwTo(3, 2, 1);
        due("one is not", x.copy(), 11);
        x.set(0, true);
        due("in fog", x.copy(), 7);
        due("four looks, one sign", lake("p;p;bk1").copy(), 4);
    }

    private static void imageAndBack() {
        promise = 48;
        TugLake x = lake(THREE);
        due("no image", x.back(), NONE);
        x.tugs(120);
        x.set(0, true);
        x.set(2, true);
        x.day();
        promise = 47;
        due("image()", x.image(), 1);
        x.tugs(1);
        x.throwTo(2, 2, 2);
        x.set(0, false);
        x.set(1, true);
        x.set(2, false);
        x.set(3, true);
        x.wet(1);
        x.day();
        x.see(0, 0);
        x.shelve(false, 1);
        x.undo();
        x.undo();
        x.seed(99);
        promise = 48;
        due("back()", x.back(), 1);
        due("tugs", x.count(5), 120);
        due("throws", x.thrown(2, 2), 0);
        due("throws that were learnt", x.thrown(0, 0), 2);
        due("fog", x.count(6), 1);
        due("thunder", x.count(7), 0);
        due("lost", x.count(2), 25);
        due("days", x.was(0, 0), 2);
        due("what is seen is not of an image", x.count(9), 1);
        due("nor who learns", x.count(8), 0);
        due("nor who learns", x.count(13), 1);
        due("draws: the third x of seed 0, place 0", x.day(), 20);
        due("back() again", x.back(), 1);
        due("undo() of a day of the image", x.undo(), 0);
        due("as ahead of it", x.thrown(0, 0), 0);
        due("draws as ahead of it", x.day(), 0);
        promise = 47;
        x.tugs(2222);
        x.day();
        due("another image in place of the one ahead", x.image(), 2);
        x.undo();
        x.tugs(0);
        promise = 48;
        due("back()", x.back(), 2);
        due("tugs", x.count(5) == 0 ? 1 : 0, 0);
        tell(x, "p;p");
        x.text(0);
        due("no image of this lake", x.back(), NONE);
    }

    private static void count() {
        promise = 49;
        TugLake x = lakeWith(THREE, "y:f");
        tell(x, "p;p");
        x.tugs(1201);
        x.set(0, true);
        x.set(3, true);
        x.see(1, 1);
        x.day();
        // The day of seed 0 is at place 2, the sign 2 of sound 1 is lost, the throw elsewhere: it tugs 0 from then on.
        int[] want = {3, 3, 25, 1, 3, 1001, 1, 0, 0, 1, 1, 0, 0, 1};
        for (int what = 0; what < want.length; what++) {
            due("count(" + what + ")", x.count(what), want[what]);
        }
        int[] bad = {-1, 14, 100, FAR, LOW, -1000000};
        for (int what : bad) {
            due("count(" + what + ")", x.count(what), HIDDEN);
        }
        x.worth(NONE);
        due("count(12)", x.count(12), NONE);
    }
}
