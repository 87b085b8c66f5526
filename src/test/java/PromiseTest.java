/** Each promise of the document by itself; the answers that are due were worked out by hand. */
public final class PromiseTest {
    private static final int NONE = NightSchool.NONE;
    private static final int NO_LINE = -2000000000;
    private static final int[] OUTSIDE = {Integer.MIN_VALUE, -1, 1000000, Integer.MAX_VALUE};
    private static int promise = 0;
    private static int wrong = 0;
    private static int checks = 0;

    private static void due(String call, long got, long want) {
        checks++;
        if (got != want) {
            wrong++;
            System.out.println("promise " + promise + ": " + call + " answered " + got + ", due is " + want);
        }
    }

    private static void due(String call, boolean got, boolean want) {
        due(call, got ? 1 : 0, want ? 1 : 0);
    }

    /** Puts a text on the tape, behind what it has. */
    private static void tape(NightSchool x, String text, int before) {
        for (int i = 0; i < text.length(); i += 20) {
            int[] n = new int[5];
            for (int j = 0; j < 20; j++) {
                n[j / 4] = n[j / 4] << 8 | (i + j < text.length() ? text.charAt(i + j) & 255 : 32);
            }
            x.feed(n[0], n[1], n[2], n[3], n[4]);
        }
        due("end of the text", x.end(before + text.length()), before + text.length());
    }

    private static int fees(NightSchool x, String text) {
        tape(x, text, 0);
        return x.fees();
    }

    private static void good(String text, int lines) {
        NightSchool x = new NightSchool();
        due("fees() of " + text, fees(x, text), lines);
        due("fault(0) of " + text, x.fault(0), 0);
        due("fault(1) of " + text, x.fault(1), NONE);
        due("count(7) of " + text, x.count(7), lines);
    }

    private static void bad(String text, int fault, int place) {
        NightSchool x = new NightSchool();
        due("fees() of " + text, fees(x, text), NONE);
        due("fault(0) of " + text, x.fault(0), fault);
        due("fault(1) of " + text, x.fault(1), place);
        due("count(7) of " + text, x.count(7), 0);
    }

    private static void wishes(NightSchool x, int pupil, int... courses) {
        for (int c : courses) {
            x.wish(pupil, c);
        }
    }

    /**
     * Two courses of one place on evening 0: pupil 0 has course 0, pupil 1 has course 1 but would rather have 0,
     * pupil 2 has none and waits for 1.
     */
    private static NightSchool chain() {
        NightSchool x = new NightSchool();
        x.room(10);
        x.room(20);
        x.course(0, 0, 1, 1, 100);
        x.course(0, 1, 1, 1, 70);
        x.pupil(10, 0, 1);
        x.pupil(20, 1, 1);
        x.pupil(30, 2, 1);
        wishes(x, 0, 0);
        wishes(x, 1, 0, 1);
        wishes(x, 2, 1);
        return x;
    }

    /** One pupil of age 30, purse 1, who has courses 0 (300) and 1 (201), its wishes of rank 0 and 1. */
    private static NightSchool payer() {
        NightSchool x = new NightSchool();
        x.room(5);
        x.course(0, 0, 1, 5, 300);
        x.course(1, 0, 1, 5, 201);
        x.pupil(30, 1, 2);
        wishes(x, 0, 0, 1);
        x.open();
        return x;
    }

    private static void newObject() {
        NightSchool x = new NightSchool();
        for (int what : new int[] {0, 1, 2, 3, 4, 5, 7, 8}) {
            due("count(" + what + ")", x.count(what), 0);
        }
        due("count(6)", x.count(6), NONE);
        due("end(0)", x.end(0), 0);
        due("end(1)", x.end(1), NONE);
        due("fault(0)", x.fault(0), 0);
        due("fault(1)", x.fault(1), NONE);
        due("close()", x.close(), NONE);
        for (int k = 0; k < 3; k++) {
            due("again(" + k + ")", x.again(k), false);
        }
        NightSchool y = payer();
        due("a bill without fees", y.bill(0), 501);
        due("another object is of its own", new NightSchool().count(2), 0);
        due("NONE", NightSchool.NONE, -1);
    }

    private static void feed() {
        NightSchool x = new NightSchool();
        for (int i = 1; i <= 25; i++) {
            due("feed " + i, x.feed(1, 2, 3, 4, 5), 20 * i);
        }
        due("feed beyond 500", x.feed(1, 2, 3, 4, 5), NONE);
        due("nothing came", x.end(500), 500);
        due("end(481)", x.end(481), 481);
        due("feed to 501", x.feed(1, 2, 3, 4, 5), NONE);
        due("end(480)", x.end(480), 480);
        due("feed to 500", x.feed(1, 2, 3, 4, 5), 500);
        NightSchool y = new NightSchool();
        // "add " "1;ad" "d 2;" "add " "3;  "
        due("feed", y.feed(0x61646420, 0x313b6164, 0x6420323b, 0x61646420, 0x333b2020), 20);
        due("fees", y.fees(), 3);
        y.pupil(1, 1, 1);
        due("line 0", y.line(0, 0), 1);
        due("line 1", y.line(0, 1), 2);
        due("line 2", y.line(0, 2), 3);
        // Bytes above 127 are bytes like others: here the first one is no token.
        due("feed", y.feed(0x20ffffff, -1, -1, -1, -1), 20);
        due("fees", y.fees(), NONE);
        due("place", y.fault(1), 1);
    }

    private static void end() {
        NightSchool x = new NightSchool();
        x.feed(0, 0, 0, 0, 0);
        due("end(21)", x.end(21), NONE);
        due("end(-1)", x.end(-1), NONE);
        due("end(min)", x.end(Integer.MIN_VALUE), NONE);
        due("end(max)", x.end(Integer.MAX_VALUE), NONE);
        due("end(20)", x.end(20), 20);
        due("end(7)", x.end(7), 7);
        due("end(8)", x.end(8), NONE);
        due("feed", x.feed(0, 0, 0, 0, 0), 27);
        due("end(0)", x.end(0), 0);
        NightSchool y = new NightSchool();
        tape(y, "free;add 1;less", 0);
        due("end(5)", y.end(5), 5);
        tape(y, "end;", 5);
        due("fees", y.fees(), 2);
    }

    private static void feesTaken() {
        good("", 0);
        good(" \n ", 0);
        good("free;", 1);
        good("add5;less 00007;part 1/2;least 3;most 99999;free;end;", 7);
        good("when age<18 and purse=2 and courses>1 and sum>00100 : part 1 / 2 ;\nwhen first=1:free;when week>3:end;", 3);
        good("when sum=0:add 1;".repeat(16), 16);
        good("when age<1and age<1and age<1and age<1:end;when age<1 and age<1 and age<1 and age<1:end;", 2);
        NightSchool x = payer();
        due("fees", fees(x, "add 10;add 20;"), 2);
        due("bill", x.bill(0), 531);
        due("the tape is empty then", x.end(1), NONE);
        due("a fault", fees(x, "add;"), NONE);
        due("the tape is empty then, too", x.end(1), NONE);
        due("the fees from before hold on", x.bill(0), 531);
        due("the lines from before, too", x.count(7), 2);
        due("a late fault", fees(x, "add 7;part 1/0;"), NONE);
        due("the fees from before hold on", x.bill(0), 531);
        due("fees", fees(x, "when age>30:add 1;less 1;"), 2);
        due("bill", x.bill(0), 500);
        due("no lines", fees(x, ""), 0);
        due("bill", x.bill(0), 501);
    }

    private static void textFaults() {
        bad("fre;", 1, 0);
        bad(" ;", 1, 1);
        bad("add;", 1, 3);
        bad("add 5", 1, 5);
        bad("add 5 \n ", 1, 8);
        bad("add 123456;", 1, 4);
        bad("add 000001;", 1, 4);
        bad("addx 5;", 1, 0);
        bad("addz 5;", 1, 0);
        bad("adda 5;", 1, 0);
        bad("add 90`;", 1, 6);
        bad("add 90{;", 1, 6);
        bad(";".repeat(500), 1, 0);
        bad("end;".repeat(124) + "free", 1, 500);
        bad("end;".repeat(124) + "add5", 1, 500);
        bad("Add 5;", 1, 0);
        bad("free;\tend;", 1, 5);
        bad("free;\rend;", 1, 5);
        bad("free;!", 1, 5);
        bad("free;\u00e1", 1, 5);
        bad("free;\0", 1, 5);
        bad("when", 1, 4);
        bad("when :free;", 1, 5);
        bad("when ag<1:free;", 1, 5);
        bad("when add<1:free;", 1, 5);
        bad("when age:free;", 1, 8);
        bad("when age<:free;", 1, 9);
        bad("when age<1 free;", 1, 11);
        bad("when age<1 and :free;", 1, 15);
        bad("when age<1:when age<1:free;", 1, 11);
        bad("when age<1:;", 1, 11);
        bad("when age/1:free;", 1, 8);
        bad("part 1;", 1, 6);
        bad("part 1/;", 1, 7);
        bad("part /2;", 1, 5);
        bad("free 1;", 1, 5);
        bad("end free;", 1, 4);
        bad("free;;", 1, 5);
        bad("and age<1:free;", 1, 0);
        bad("age<1:free;", 1, 0);
        bad("least 1 2;", 1, 8);
        bad("when age<1:most x;", 1, 16);
    }

    private static void lateFaults() {
        bad("part 1/0;", 2, 7);
        bad("part 0/ 00000;", 2, 8);
        bad("part 1/0;part 1/0;", 2, 7);
        good("part 0/1;part 0/00001;", 2);
        bad("end;".repeat(17), 3, 64);
        bad("end;".repeat(125), 3, 64);
        bad("end;".repeat(16) + "\n when age=1:end;", 3, 66);
        bad("when age=1 and age=1 and age=1 and age=1 and age=1:end;", 3, 45);
        bad("when age=1 and age=1 and age=1 and age=1 and age=1 and age=1:end;", 3, 45);
        bad("when age=1 and age=1 and age=1 and age=1 and sum=1:part 1/0;", 3, 45);
        bad("part 1/0;when age=1 and age=1 and age=1 and age=1 and sum=1:end;", 2, 7);
        bad("end;".repeat(16) + "part 1/0;", 3, 64);
        bad("end;".repeat(15) + "part 1/0;end;", 2, 67);
        bad("end;".repeat(15) + "when age=1 and age=1 and age=1 and age=1 and age=1:end;", 3, 105);
        // A fault of the text goes before, though it stands behind.
        bad("part 1/0;fre;", 1, 9);
        bad("end;".repeat(17) + "!", 1, 68);
        bad("when age=1 and age=1 and age=1 and age=1 and age=1;", 1, 50);
        bad("part 1/0", 1, 8);
    }

    /** What stood behind the end of the tape is no part of its last token. */
    private static void cutFaults() {
        NightSchool x = new NightSchool();
        tape(x, "add 123456;", 0);
        x.end(9);
        due("fees of a number that was cut", x.fees(), NONE);
        due("its place", x.fault(1), 9);
        tape(x, "free;", 0);
        x.end(3);
        due("fees of a word that was cut", x.fees(), NONE);
        due("its place", x.fault(1), 0);
    }

    private static void fault() {
        textFaults();
        lateFaults();
        NightSchool x = new NightSchool();
        fees(x, "fre;");
        due("fault(0)", x.fault(0), 1);
        due("fault(1)", x.fault(1), 0);
        due("fault(-1)", x.fault(-1), NONE);
        due("fault(2)", x.fault(2), NONE);
        due("fault(min)", x.fault(Integer.MIN_VALUE), NONE);
        tape(x, "part 1/0;", 0);
        due("fault(0) before the next fees()", x.fault(0), 1);
        x.fees();
        due("fault(0) of the latest", x.fault(0), 2);
        fees(x, "free;");
        due("fault(0) of a good one", x.fault(0), 0);
        cutFaults();
        due("fault(1) of a good one", x.fault(1), NONE);
    }

    private static void room() {
        NightSchool x = new NightSchool();
        for (int seats : new int[] {0, 41, -5, Integer.MIN_VALUE, Integer.MAX_VALUE}) {
            due("room(" + seats + ")", x.room(seats), NONE);
        }
        due("room(1)", x.room(1), 0);
        due("room(40)", x.room(40), 1);
        due("room(7)", x.room(7), 2);
        due("open()", x.open(), 0);
        due("room in a term", x.room(7), NONE);
        x.close();
        due("room(7)", x.room(7), 3);
        due("room(7)", x.room(7), 4);
        due("a sixth", x.room(7), NONE);
        due("count(0)", x.count(0), 5);
    }

    private static void course() {
        NightSchool x = new NightSchool();
        int[][] wrongOnes = {{-1, 0, 1, 1, 0}, {5, 0, 1, 1, 0}, {0, -1, 1, 1, 0}, {0, 6, 1, 1, 0}, {0, 0, 0, 1, 0},
            {0, 0, 2, 1, 0}, {0, 0, 1, 41, 0}, {0, 0, 41, 41, 0}, {0, 0, 0, 0, 0}, {0, 0, 1, 1, -1}, {0, 0, 1, 1, 1001},
            {0, 0, -3, -2, 0}, {0, 0, 1, Integer.MAX_VALUE, 0}, {0, 0, Integer.MIN_VALUE, 1, 0}};
        for (int[] w : wrongOnes) {
            due("course " + java.util.Arrays.toString(w), x.course(w[0], w[1], w[2], w[3], w[4]), NONE);
        }
        due("course", x.course(0, 0, 1, 1, 0), 0);
        due("course", x.course(4, 5, 40, 40, 1000), 1);
        x.open();
        due("course in a term", x.course(0, 0, 1, 1, 0), NONE);
        x.close();
        for (int i = 2; i < 10; i++) {
            due("course", x.course(1, 1, 1, 2, 3), i);
        }
        due("an eleventh", x.course(0, 0, 1, 1, 0), NONE);
        due("count(1)", x.count(1), 10);
    }

    private static void pupil() {
        NightSchool x = new NightSchool();
        int[][] wrongOnes = {{-1, 0, 1}, {121, 0, 1}, {0, -1, 1}, {0, 3, 1}, {0, 0, 0}, {0, 0, 4}, {0, 0, -1}};
        for (int[] w : wrongOnes) {
            due("pupil " + java.util.Arrays.toString(w), x.pupil(w[0], w[1], w[2]), NONE);
        }
        due("pupil", x.pupil(0, 0, 1), 0);
        due("pupil", x.pupil(120, 2, 3), 1);
        x.open();
        due("pupil in a term", x.pupil(0, 0, 1), NONE);
        x.close();
        for (int i = 2; i < 30; i++) {
            due("pupil", x.pupil(i, 1, 2), i);
        }
        due("a 31st", x.pupil(0, 0, 1), NONE);
        due("count(2)", x.count(2), 30);
    }

    private static void wish() {
        NightSchool x = new NightSchool();
        due("wish without pupils", x.wish(0, 0), NONE);
        x.pupil(1, 1, 1);
        due("wish without courses", x.wish(0, 0), NONE);
        for (int i = 0; i < 8; i++) {
            x.course(0, 0, 1, 1, 0);
        }
        for (int n : OUTSIDE) {
            due("wish of no pupil", x.wish(n, 0), NONE);
            due("wish of no course", x.wish(0, n), NONE);
        }
        due("wish(1, 0)", x.wish(1, 0), NONE);
        due("wish(0, 8)", x.wish(0, 8), NONE);
        for (int i = 0; i < 6; i++) {
            due("wish", x.wish(0, 7 - i), i);
            due("the same again", x.wish(0, 7 - i), NONE);
        }
        due("a seventh", x.wish(0, 0), NONE);
        due("person 4", x.person(0, 4), 6);
        due("person 10", x.person(0, 10), 7);
        due("person 15", x.person(0, 15), 2);
        // In a term a wish is followed by moving up.
        NightSchool y = new NightSchool();
        y.room(5);
        y.course(0, 0, 1, 3, 10);
        y.course(0, 1, 1, 3, 10);
        y.pupil(1, 1, 1);
        y.pupil(1, 1, 1);
        y.wish(0, 0);
        due("open", y.open(), 6);
        due("wish of a course that is not held", y.wish(1, 1), 0);
        due("it has none", y.person(1, 3), 0);
        due("wish in a term", y.wish(1, 0), 1);
        due("it has it", y.person(1, 3), 1);
        due("it moved up", y.person(1, 6), 1);
        due("its points", y.person(1, 5), 5);
    }

    private static void canHold() {
        NightSchool x = new NightSchool();
        due("nothing of nothing", x.canHold(0), true);
        due("bits without a course", x.canHold(1), false);
        x.course(0, 0, 5, 8, 0);
        due("without a room", x.canHold(1), false);
        x.room(10);
        x.room(20);
        x.course(0, 1, 12, 15, 0);
        x.course(0, 0, 5, 8, 0);
        x.course(1, 0, 1, 40, 0);
        x.course(0, 2, 1, 1, 0);
        x.course(0, 3, 1, 16, 0);
        x.course(2, 0, 21, 40, 0);
        due("0", x.canHold(0b1), true);
        due("0 1: the greatest gets the greatest room", x.canHold(0b11), true);
        due("0 2: one teacher", x.canHold(0b101), false);
        due("0 3: one teacher, two evenings", x.canHold(0b1001), true);
        due("0 1 4: too few rooms", x.canHold(0b10011), false);
        due("1 5: 1 gets the small room", x.canHold(0b100010), false);
        due("0 5", x.canHold(0b100001), true);
        due("6: no room has its least", x.canHold(0b1000000), false);
        due("0 1 3", x.canHold(0b1011), true);
        due("bits without a course", x.canHold(1 << 7), false);
        due("bits without a course", x.canHold(1 | 1 << 7), false);
        due("bits without a course", x.canHold(Integer.MIN_VALUE), false);
        due("bits without a course", x.canHold(-1), false);
        NightSchool y = new NightSchool();
        y.room(3);
        y.room(9);
        y.course(0, 0, 3, 9, 0);
        y.course(0, 1, 4, 9, 0);
        due("alike by most: the first one gets the greatest room", y.canHold(3), false);
        due("alone", y.canHold(2), true);
        y.open();
        due("in a term as before", y.canHold(2), true);
    }

    private static void points() {
        NightSchool x = chain();
        due("of the empty set", x.points(0), 0);
        due("of course 0", x.points(1), 6);
        due("of course 1", x.points(2), 5);
        due("of both", x.points(3), 11);
        due("of what can't be held", x.points(4), NONE);
        due("of what can't be held", x.points(-1), NONE);
        x.open();
        due("in a term as before", x.points(3), 11);
        // Course 1 needs two, but the one place of course 0 is what pupil 0 wishes more.
        NightSchool y = new NightSchool();
        y.room(10);
        y.course(0, 0, 1, 1, 0);
        y.course(1, 0, 2, 5, 0);
        y.pupil(9, 0, 1);
        y.pupil(9, 0, 1);
        wishes(y, 0, 0, 1);
        wishes(y, 1, 1);
        due("0", y.points(1), 6);
        due("1", y.points(2), 11);
        due("both: not lawful", y.points(3), NONE);
        // Ranks count 6, 5, 4, 3, 2, 1; each round gives one course; the evening of a course is taken by it.
        NightSchool z = new NightSchool();
        z.room(10);
        z.room(10);
        for (int i = 0; i < 5; i++) {
            z.course(i, i, 1, 9, 0);
        }
        z.course(0, 5, 1, 9, 0);
        z.pupil(9, 0, 3);
        wishes(z, 0, 0, 5, 1, 2, 3, 4);
        due("0 1 2", z.points(0b000111), 6 + 4 + 3);
        due("4", z.points(0b010000), 1);
        due("5 3 4", z.points(0b111000), 5 + 2 + 1);
        due("0 and 5: one evening", z.points(0b100001), NONE);
        due("four", z.points(0b001111), NONE);
    }

    private static void rounds() {
        NightSchool x = new NightSchool();
        x.room(10);
        x.course(0, 0, 1, 2, 0);
        x.course(1, 0, 1, 1, 0);
        x.course(2, 0, 1, 1, 0);
        x.pupil(9, 0, 3);
        x.pupil(9, 0, 3);
        wishes(x, 0, 0, 1, 2);
        wishes(x, 1, 0, 1, 2);
        due("open", x.open(), 6 + 6 + 5 + 4);
        due("the second round begins at the last pupil", x.person(1, 3), 0b011);
        due("and ends at the first one", x.person(0, 3), 0b101);
        NightSchool y = new NightSchool();
        y.room(10);
        y.course(0, 0, 1, 2, 0);
        y.course(1, 0, 1, 2, 0);
        y.course(2, 0, 1, 1, 0);
        y.pupil(9, 0, 3);
        y.pupil(9, 0, 3);
        wishes(y, 0, 0, 1, 2);
        wishes(y, 1, 0, 1, 2);
        due("open", y.open(), 6 + 6 + 5 + 5 + 4);
        due("the third round begins at the first pupil", y.person(0, 3), 0b111);
        due("the last one has two", y.person(1, 3), 0b011);
    }

    private static void open() {
        rounds();
        NightSchool e = new NightSchool();
        due("open with nothing", e.open(), 0);
        due("a second time", e.open(), NONE);
        due("week", e.count(6), 0);
        NightSchool x = chain();
        due("open", x.open(), 11);
        due("a second time", x.open(), NONE);
        due("held", x.count(3), 2);
        due("points", x.count(5), 11);
        due("nobody moved up", x.count(8), 0);
        // Alike by points: the least bits, as a number.
        NightSchool y = new NightSchool();
        y.room(10);
        y.course(0, 0, 1, 9, 0);
        y.course(0, 0, 1, 9, 0);
        y.pupil(9, 0, 1);
        y.pupil(9, 0, 1);
        wishes(y, 0, 1);
        wishes(y, 1, 0);
        due("open", y.open(), 6);
        due("course 0 is held", y.tell(0, 5), 1);
        due("course 1 is not", y.tell(1, 5), 0);
        NightSchool z = new NightSchool();
        z.room(10);
        z.course(0, 0, 1, 9, 0);
        z.course(1, 0, 1, 9, 0);
        z.course(0, 0, 1, 9, 0);
        z.pupil(9, 0, 1);
        z.pupil(9, 0, 1);
        wishes(z, 0, 2, 1);
        wishes(z, 1, 0, 2);
        due("0 1", z.points(0b011), 11);
        due("2", z.points(0b100), 11);
        due("1 2", z.points(0b110), NONE);
        due("open", z.open(), 11);
        due("0 1 are held: 3 is less than 4", z.tell(0, 5) + z.tell(1, 5) - z.tell(2, 5), 2);
    }

    private static void close() {
        NightSchool x = chain();
        due("without a term", x.close(), NONE);
        x.open();
        x.weeks(7);
        x.quit(0, 0);
        due("moves", x.count(8), 2);
        due("hours", x.hours(0, 1), 14);
        due("close", x.close(), 7);
        due("close again", x.close(), NONE);
        due("rooms stay", x.count(0), 2);
        due("courses stay", x.count(1), 2);
        due("pupils stay", x.count(2), 3);
        due("wishes stay", x.person(1, 4), 2);
        due("a wish that is no more stays so", x.person(0, 4), 0);
        due("no places", x.count(4), 0);
        due("no points", x.count(5), 0);
        due("no week", x.count(6), NONE);
        due("nothing is held", x.count(3), 0);
        due("no moves", x.count(8), 0);
        due("no moves of a pupil", x.person(1, 6), 0);
        due("no course", x.person(1, 3), 0);
        due("no weeks of a course", x.tell(0, 9), 0);
        due("no room", x.tell(0, 6), NONE);
        due("no places", x.tell(0, 7), 0);
        due("hours of a teacher", x.hours(0, 1), 0);
        due("hours of a room", x.hours(1, 0), 0);
        due("a term again", x.open(), 12);
        due("close at once", x.close(), 0);
    }

    private static void weeks() {
        NightSchool x = new NightSchool();
        due("without a term", x.weeks(1), NONE);
        x.room(10);
        x.course(0, 2, 3, 5, 10);
        x.course(0, 3, 1, 5, 10);
        for (int i = 0; i < 3; i++) {
            x.pupil(9, 0, 1);
            x.wish(i, 0);
        }
        due("open", x.open(), 18);
        for (int n : new int[] {0, -1, 21, Integer.MIN_VALUE, Integer.MAX_VALUE}) {
            due("weeks(" + n + ")", x.weeks(n), NONE);
        }
        due("weeks(1)", x.weeks(1), 1);
        due("weeks(20)", x.weeks(20), 21);
        due("weeks of the course", x.tell(0, 9), 21);
        due("hours of the teacher", x.hours(0, 2), 42);
        x.quit(0, 0);
        due("weeks(2)", x.weeks(2), 23);
        due("two of three are enough", x.tell(0, 5), 1);
        x.quit(1, 0);
        due("it falls only in a week", x.tell(0, 5), 1);
        due("weeks(3)", x.weeks(3), 26);
        due("it fell", x.tell(0, 5), 0);
        due("but in its last week it was held", x.tell(0, 9), 24);
        due("hours of the teacher", x.hours(0, 2), 48);
        due("hours of the room", x.hours(1, 0), 48);
        due("its pupil left it", x.person(2, 3), 0);
        due("and wishes it still", x.person(2, 4), 1);
        due("no room", x.tell(0, 6), NONE);
        due("no places", x.tell(0, 7), 0);
        due("no pupils", x.tell(0, 8), 0);
    }

    private static void falls() {
        // Just half is enough; and who leaves a course that falls moves up to another one.
        NightSchool x = new NightSchool();
        x.room(10);
        x.room(10);
        x.course(0, 0, 2, 5, 10);
        x.course(0, 1, 4, 6, 10);
        for (int i = 0; i < 6; i++) {
            x.pupil(9, 0, 1);
        }
        wishes(x, 0, 0);
        wishes(x, 1, 0);
        wishes(x, 2, 1, 0);
        wishes(x, 3, 1, 0);
        wishes(x, 4, 1);
        wishes(x, 5, 1);
        due("open", x.open(), 36);
        x.quit(4, 1);
        x.quit(5, 1);
        due("weeks", x.weeks(1), 1);
        due("two of four", x.tell(1, 5), 1);
        x.quit(3, 1);
        due("pupil 3 is in course 0 now", x.person(3, 3), 1);
        due("weeks", x.weeks(1), 2);
        due("one of four", x.tell(1, 5), 0);
        due("pupil 2 is in course 0 now", x.person(2, 3), 1);
        due("pupils of course 0", x.tell(0, 8), 4);
        due("moves", x.count(8), 2);
        due("moves of pupil 2", x.person(2, 6), 1);
        due("hours of teacher 1", x.hours(0, 1), 4);
        due("hours of the second room", x.hours(1, 1), 4);
    }

    private static void quit() {
        NightSchool x = chain();
        due("without a term", x.quit(0, 0), false);
        x.open();
        due("it has it not", x.quit(1, 0), false);
        for (int n : OUTSIDE) {
            due("no pupil", x.quit(n, 0), false);
            due("no course", x.quit(0, n), false);
        }
        due("quit", x.quit(0, 0), true);
        due("the wish is no more", x.person(0, 4), 0);
        due("it has none", x.person(0, 3), 0);
        due("pupil 1 moved up", x.person(1, 3), 1);
        due("pupil 2, too", x.person(2, 3), 2);
        due("moves", x.count(8), 2);
        due("again", x.quit(0, 0), false);
        due("it may be wished anew", x.wish(0, 0), 0);
        due("but there is no place", x.why(0, 0), 5);
        NightSchool y = payer();
        due("points", y.person(0, 5), 11);
        due("quit", y.quit(0, 0), true);
        due("those behind are of one rank less", y.person(0, 10), 1);
        due("none behind them", y.person(0, 11), NONE);
        due("points", y.person(0, 5), 6);
    }

    private static void moveOrder() {
        // The first pupil by numbers comes first, and it leaves a course that it wishes less.
        NightSchool x = new NightSchool();
        x.room(10);
        x.room(10);
        x.course(0, 0, 1, 1, 0);
        x.course(0, 1, 1, 2, 0);
        x.course(1, 0, 1, 9, 0);
        for (int i = 0; i < 4; i++) {
            x.pupil(9, 0, 2);
        }
        wishes(x, 0, 0);
        wishes(x, 1, 0, 1, 2);
        wishes(x, 2, 0, 1, 2);
        wishes(x, 3, 1);
        due("open", x.open(), 6 + 5 + 5 + 4 + 4);
        due("pupil 3 has none", x.why(3, 1), 5);
        x.quit(0, 0);
        due("pupil 1 is in course 0", x.person(1, 3), 0b101);
        due("pupil 2 as before", x.person(2, 3), 0b110);
        due("pupil 3 has its place", x.person(3, 3), 0b010);
        due("moves", x.count(8), 2);
        due("moves of 1", x.person(1, 6), 1);
        due("moves of 2", x.person(2, 6), 0);
        due("moves of 3", x.person(3, 6), 1);
    }

    private static void tell() {
        NightSchool x = chain();
        int[] before = {0, 0, 1, 1, 100, 0, NONE, 0, 0, 0, NONE};
        for (int what = 0; what < before.length; what++) {
            due("tell(0, " + what + ")", x.tell(0, what), before[what]);
        }
        x.open();
        x.weeks(3);
        int[] held = {0, 1, 1, 1, 70, 1, 0, 1, 1, 3, NONE};
        for (int what = 0; what < held.length; what++) {
            due("tell(1, " + what + ")", x.tell(1, what), held[what]);
        }
        due("the first of two alike has the greatest room", x.tell(0, 6), 1);
        due("tell(0, -1)", x.tell(0, -1), NONE);
        due("tell(2, 0)", x.tell(2, 0), NONE);
        for (int n : OUTSIDE) {
            due("no course", x.tell(n, 0), NONE);
            due("no such what", x.tell(0, n), NONE);
        }
        NightSchool y = new NightSchool();
        y.room(3);
        y.room(7);
        y.room(7);
        y.course(4, 5, 2, 5, 1000);
        y.course(4, 4, 2, 9, 0);
        y.course(4, 3, 2, 9, 0);
        for (int i = 0; i < 6; i++) {
            y.pupil(9, 0, 1);
            y.wish(i, i / 2);
        }
        due("open", y.open(), 36);
        due("rooms alike by seats: the first number first", y.tell(1, 6), 1);
        due("then the second", y.tell(2, 6), 2);
        due("the least course has the smallest room", y.tell(0, 6), 0);
        due("places by the seats", y.tell(0, 7), 3);
        due("places by the seats", y.tell(1, 7), 7);
        due("pupils", y.tell(1, 8), 2);
    }

    private static void person() {
        NightSchool x = new NightSchool();
        x.room(9);
        x.course(3, 0, 1, 9, 0);
        x.course(1, 0, 1, 9, 0);
        x.course(1, 0, 5, 9, 0);
        x.pupil(77, 2, 3);
        wishes(x, 0, 2, 1, 0);
        due("no points without a term", x.person(0, 5), 0);
        due("no course on evening 1", x.person(0, 21), NONE);
        x.open();
        int[] first = {77, 2, 3, 0b011, 3, 5 + 4, 0, NONE, NONE, NONE, 2, 1, 0, NONE, NONE, NONE, NONE};
        for (int what = 0; what < first.length; what++) {
            due("person(0, " + what + ")", x.person(0, what), first[what]);
        }
        int[] evenings = {NONE, NONE, 1, NONE, 0, NONE, NONE};
        for (int i = 0; i < evenings.length; i++) {
            due("person(0, " + (19 + i) + ")", x.person(0, 19 + i), evenings[i]);
        }
        due("person(0, -1)", x.person(0, -1), NONE);
        due("person(1, 0)", x.person(1, 0), NONE);
        for (int n : OUTSIDE) {
            due("no pupil", x.person(n, 0), NONE);
            due("no such what", x.person(0, n), NONE);
        }
    }

    private static void why() {
        NightSchool x = new NightSchool();
        x.room(9);
        x.room(9);
        x.course(0, 0, 1, 1, 0);
        x.course(0, 1, 1, 9, 0);
        x.course(1, 0, 1, 9, 0);
        x.course(2, 0, 9, 9, 0);
        x.course(3, 0, 1, 9, 0);
        x.pupil(9, 0, 1);
        x.pupil(9, 0, 2);
        x.pupil(9, 0, 1);
        x.pupil(9, 0, 3);
        wishes(x, 0, 0, 1, 2, 3);
        wishes(x, 1, 0, 1, 2, 4);
        wishes(x, 2, 4);
        wishes(x, 3, 0);
        due("nothing is held before a term", x.why(0, 0), 2);
        due("nor wished", x.why(0, 4), 1);
        due("open", x.open(), 6 + 5 + 4 + 6);
        due("0: it has it", x.why(0, 0), 0);
        due("1: not wished", x.why(0, 4), 1);
        due("1 before 2", x.why(2, 3), 1);
        due("2: not held", x.why(0, 3), 2);
        due("3: one on that evening is wished more", x.why(0, 1), 3);
        due("4: as many as it wants", x.why(0, 2), 4);
        due("5: no place, though it has as many as it wants", x.why(1, 0), 5);
        due("4", x.why(1, 4), 4);
        due("5: no place", x.why(3, 0), 5);
        due("0", x.why(2, 4), 0);
        due("why(4, 0)", x.why(4, 0), NONE);
        due("why(0, 5)", x.why(0, 5), NONE);
        for (int n : OUTSIDE) {
            due("no pupil", x.why(n, 0), NONE);
            due("no course", x.why(0, n), NONE);
        }
    }

    private static void hours() {
        NightSchool x = chain();
        due("without a term", x.hours(0, 0), 0);
        x.open();
        due("week 0", x.hours(0, 0), 0);
        x.weeks(4);
        due("teacher 0", x.hours(0, 0), 8);
        due("teacher 1", x.hours(0, 1), 8);
        due("teacher 5", x.hours(0, 5), 0);
        due("teacher 6", x.hours(0, 6), NONE);
        due("room 0", x.hours(1, 0), 8);
        due("room 1", x.hours(1, 1), 8);
        due("room 2", x.hours(1, 2), NONE);
        due("hours(2, 0)", x.hours(2, 0), NONE);
        due("hours(-1, 0)", x.hours(-1, 0), NONE);
        for (int n : OUTSIDE) {
            due("no teacher", x.hours(0, n), NONE);
            due("no room", x.hours(1, n), NONE);
        }
        NightSchool y = payer();
        y.weeks(2);
        due("a teacher of two courses", y.hours(0, 0), 8);
        due("a room of two courses", y.hours(1, 0), 8);
    }

    private static void billOf(String text, int want) {
        NightSchool x = payer();
        fees(x, text);
        due("fault of " + text, x.fault(0), 0);
        due("bill by " + text, x.bill(0), want);
    }

    private static void billTests() {
        billOf("when age<31:add 1;when age<30:add 2;", 502);
        billOf("when age>29:add 1;when age>30:add 2;", 502);
        billOf("when age=30:add 1;when age=29:add 2;", 502);
        billOf("when purse=1:add 1;when purse>1:add 2;", 502);
        billOf("when courses=2:add 1;when courses>2:add 2;", 502);
        billOf("when sum=501:add 1;when sum=501:add 2;when sum=502:add 4;", 506);
        billOf("when first=1:add 1;when first=0:add 2;when first>1:add 4;", 502);
        billOf("when week=0:add 1;when week>0:add 2;", 502);
        billOf("when age=30 and purse=1 and courses=2 and sum=501:add 1;", 502);
        billOf("when age=30 and purse=1 and courses=2 and sum=500:add 1;", 501);
        billOf("when age=31 and purse=1:add 1;", 501);
        NightSchool x = payer();
        fees(x, "when week>2:add 1;when first=0:add 5;");
        x.weeks(2);
        due("week 2", x.bill(0), 501);
        x.weeks(1);
        due("week 3", x.bill(0), 502);
        x.quit(0, 1);
        due("course 0 alone", x.bill(0), 301);
        x.close();
        due("without a term", x.bill(0), 5);
        x.pupil(1, 1, 1);
        due("one without wishes", x.bill(1), 5);
    }

    private static void bill() {
        billTests();
        billOf("add 99999;", 100500);
        billOf("less 500;", 1);
        billOf("less 501;", 0);
        billOf("less 502;", 0);
        billOf("part 1/2;", 250);
        billOf("part 2/3;", 334);
        billOf("part 0/7;", 0);
        billOf("part 3/1;", 1503);
        billOf("least 500;", 501);
        billOf("least 502;", 502);
        billOf("most 502;", 501);
        billOf("most 500;", 500);
        billOf("free;", 0);
        billOf("free;add 3;", 3);
        billOf("end;add 3;", 501);
        billOf("add 1;when age>99:end;add 3;", 505);
        billOf("part 99999/1;part 99999/1;", 1000000000);
        billOf("part 99999/1;part 99999/1;add 1;less 1;", 999999999);
        billOf("part 99999/1;part 99999/1;part 99999/99998;part 99999/99999;", 1000000000);
        billOf("part 99999/1;part 99999/1;part 1/2;", 500000000);
        NightSchool x = payer();
        due("bill(1)", x.bill(1), NONE);
        for (int n : OUTSIDE) {
            due("no pupil", x.bill(n), NONE);
        }
    }

    private static void line() {
        NightSchool x = payer();
        due("without lines", x.line(0, 0), NO_LINE);
        fees(x, "add 9;when age<30:add 100;part 1/2;less 10000;least 40;most 30;free;add 4;end;add 5;");
        int[] want = {9, 0, -255, -255, 40, -10, -30, 4, 0, 0, NO_LINE};
        for (int k = 0; k < want.length; k++) {
            due("line(0, " + k + ")", x.line(0, k), want[k]);
        }
        due("line(1, 0)", x.line(1, 0), NO_LINE);
        for (int n : OUTSIDE) {
            due("no pupil", x.line(n, 0), NO_LINE);
            due("no line", x.line(0, n), NO_LINE);
        }
        NightSchool y = payer();
        fees(y, "part 99999/1;part 99999/1;free;");
        due("up to the most", y.line(0, 1), 1000000000 - 501 * 99999);
        due("down from it", y.line(0, 2), -1000000000);
    }

    private static void count() {
        NightSchool x = chain();
        fees(x, "free;end;");
        x.open();
        x.weeks(5);
        int[] want = {2, 2, 3, 2, 2, 11, 5, 2, 0, NONE};
        for (int what = 0; what < want.length; what++) {
            due("count(" + what + ")", x.count(what), want[what]);
        }
        x.quit(0, 0);
        due("places", x.count(4), 2);
        due("points", x.count(5), 12);
        due("moves", x.count(8), 2);
        for (int n : OUTSIDE) {
            due("no such what", x.count(n), NONE);
        }
    }

    private static void waits() {
        NightSchool x = chain();
        due("without a term", x.waits(0, 0), NONE);
        x.open();
        due("pupil 1 waits for course 0", x.waits(0, 0), 1);
        due("no other", x.waits(0, 1), NONE);
        due("pupil 2 waits for course 1", x.waits(1, 0), 2);
        x.wish(2, 0);
        due("pupil 1 still", x.waits(0, 0), 1);
        due("then pupil 2", x.waits(0, 1), 2);
        due("no third", x.waits(0, 2), NONE);
        x.wish(0, 1);
        due("pupil 0 has one that evening that it wishes more", x.waits(1, 0), 2);
        due("waits(2, 0)", x.waits(2, 0), NONE);
        for (int n : OUTSIDE) {
            due("no course", x.waits(n, 0), NONE);
            due("no such one", x.waits(0, n), NONE);
        }
    }

    private static void image() {
        NightSchool x = chain();
        for (int k : new int[] {-1, 3, Integer.MIN_VALUE, Integer.MAX_VALUE}) {
            due("image(" + k + ")", x.image(k), false);
        }
        due("image(0)", x.image(0), true);
        x.open();
        due("image(1)", x.image(1), true);
        x.weeks(2);
        due("image(2)", x.image(2), true);
        due("again(1)", x.again(1), true);
        due("week", x.count(6), 0);
        due("again(2)", x.again(2), true);
        due("week", x.count(6), 2);
        due("again(0)", x.again(0), true);
        due("week", x.count(6), NONE);
        due("a room may come", x.room(3), 2);
        due("an image is not changed by it", x.again(0), true);
        due("rooms", x.count(0), 2);
        x.room(9);
        due("a new image in place of the old one", x.image(0), true);
        x.room(9);
        x.again(0);
        due("rooms", x.count(0), 3);
    }

    private static void again() {
        NightSchool x = chain();
        for (int k : new int[] {-1, 0, 1, 2, 3, Integer.MIN_VALUE, Integer.MAX_VALUE}) {
            due("again(" + k + ")", x.again(k), false);
        }
        fees(x, "when purse=0:add 7;");
        x.open();
        x.weeks(3);
        x.image(1);
        x.quit(0, 0);
        fees(x, "free;add 1;");
        x.weeks(2);
        x.close();
        x.course(1, 1, 1, 1, 1);
        x.pupil(1, 1, 1);
        x.wish(3, 2);
        fees(x, "part 1/0;");
        x.feed(0, 0, 0, 0, 0);
        due("again(0)", x.again(0), false);
        due("again(1)", x.again(1), true);
        int[] counts = {2, 2, 3, 2, 2, 11, 3, 1, 0};
        for (int what = 0; what < counts.length; what++) {
            due("count(" + what + ")", x.count(what), counts[what]);
        }
        due("the tape is as it was", x.end(20), 20);
        due("the fault, too", x.fault(0), 2);
        due("its place, too", x.fault(1), 7);
        due("bill", x.bill(0), 107);
        due("bill", x.bill(1), 70);
        due("wishes", x.person(0, 4), 1);
        due("hours", x.hours(0, 0), 6);
        due("hours of a room", x.hours(1, 1), 6);
        due("weeks of a course", x.tell(0, 9), 3);
        due("room", x.tell(0, 6), 1);
        due("moves", x.person(1, 6), 0);
        due("it goes on from there", x.quit(0, 0), true);
        due("moves", x.count(8), 2);
        due("the image is still as it was", x.again(1), true);
        due("moves", x.count(8), 0);
        due("pupil 0 has its course", x.person(0, 3), 1);
    }

    /** A history that goes two ways from one image: each way has its own rooms, courses and pupils. */
    private static void twoWays() {
        NightSchool x = new NightSchool();
        x.image(0);
        x.room(5);
        x.course(0, 1, 2, 5, 10);
        x.pupil(20, 1, 1);
        x.pupil(21, 1, 1);
        wishes(x, 0, 0);
        wishes(x, 1, 0);
        x.image(1);
        x.again(0);
        due("nothing", x.count(0) + x.count(1) + x.count(2), 0);
        x.room(1);
        x.course(3, 4, 7, 8, 99);
        x.course(4, 4, 7, 8, 99);
        x.pupil(70, 2, 3);
        x.pupil(71, 2, 3);
        wishes(x, 0, 1, 0);
        wishes(x, 1, 1, 0);
        x.image(2);
        x.again(1);
        int[] course = {0, 1, 2, 5, 10};
        int[] person = {20, 1, 1, 0, 1, 0, 0, NONE, NONE, NONE, 0};
        for (int what = 0; what < course.length; what++) {
            due("tell(0, " + what + ")", x.tell(0, what), course[what]);
        }
        for (int what = 0; what < person.length; what++) {
            due("person(0, " + what + ")", x.person(0, what), person[what]);
        }
        due("the room has its five seats", x.canHold(1), true);
        due("open", x.open(), 12);
        due("places", x.tell(0, 7), 5);
        x.again(2);
        due("the room has its one seat", x.canHold(1), false);
        due("no term", x.count(6), NONE);
        due("evening", x.tell(0, 0), 3);
        due("least", x.tell(0, 2), 7);
        due("age", x.person(1, 0), 71);
        due("first wish", x.person(1, 10), 1);
    }

    private static void run(int number) {
        promise = number;
        switch (number) {
            case 1: newObject(); break;
            case 2: feed(); break;
            case 3: end(); break;
            case 4: feesTaken(); break;
            case 5: fault(); break;
            case 6: room(); break;
            case 7: course(); break;
            case 8: pupil(); break;
            case 9: wish(); break;
            case 10: canHold(); break;
            case 11: points(); break;
            case 12: open(); break;
            case 13: close(); break;
            case 14: weeks(); falls(); break;
            case 15: quit(); moveOrder(); break;
            case 16: tell(); break;
            case 17: person(); break;
            case 18: why(); break;
            case 19: hours(); break;
            case 20: bill(); break;
            case 21: line(); break;
            case 22: count(); break;
            case 23: waits(); break;
            case 24: image(); break;
            default: again(); twoWays(); break;
        }
    }

    public static void main(String[] args) {
        for (int number = 1; number <= 25; number++) {
            run(number);
        }
        System.out.println(checks + " answers looked at, " + wrong + " of them wrong");
        if (wrong != 0) {
            System.exit(1);
        }
    }
}
