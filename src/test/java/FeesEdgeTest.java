/** Promises 4 and 5, and the language of terms 3: the edges of tokens, texts and faults. */
public final class FeesEdgeTest extends Edge {
    private static final int TOO_MANY = 3;
    private static final String FOUR_TESTS = "when age=1 and sum=1 and week=1 and first=1";

    private static String shown(String text) {
        StringBuilder shown = new StringBuilder();
        for (int i = 0; i < text.length() && i < 60; i++) {
            char c = text.charAt(i);
            shown.append(c >= 32 && c < 127 ? "" + c : "[" + (int) c + "]");
        }
        return shown.toString();
    }

    private static void good(String text, int lines) {
        NightSchool x = new NightSchool();
        due("fees() of " + shown(text), fees(x, text), lines);
        due("fault(0) of " + shown(text), x.fault(0), 0);
        due("fault(1) of " + shown(text), x.fault(1), NONE);
        due("count(7) of " + shown(text), x.count(7), lines);
    }

    private static void bad(String text, int fault, int place) {
        NightSchool x = new NightSchool();
        due("fees() of " + shown(text), fees(x, text), NONE);
        due("fault(0) of " + shown(text), x.fault(0), fault);
        due("fault(1) of " + shown(text), x.fault(1), place);
        due("count(7) of " + shown(text), x.count(7), 0);
    }

    /** By how much a line changes a bill of 0. */
    private static void adds(String text, int want) {
        NightSchool x = new NightSchool();
        x.pupil(0, 0, 1);
        due("fees() of " + shown(text), fees(x, text), 1);
        due("bill by " + shown(text), x.bill(0), want);
    }

    private static void tapeIsEmptyThen() {
        NightSchool x = new NightSchool();
        due("fees()", fees(x, "free;"), 1);
        due("end(1) behind a text", x.end(1), NONE);
        due("feed behind a text", x.feed(0, 0, 0, 0, 0), 20);
        due("fees()", x.fees(), NONE);
        due("end(1) behind a fault", x.end(1), NONE);
        due("feed behind a fault", x.feed(0, 0, 0, 0, 0), 20);
        x.end(0);
        due("fees() of a full tape", fees(x, " ".repeat(500)), 0);
        due("feed behind a full tape", x.feed(0, 0, 0, 0, 0), 20);
    }

    private static void holdsFromNowOn() {
        NightSchool x = school(seats(5), courses(row(0, 0, 1, 5)), row(1, 0));
        x.open();
        due("bill without fees", x.bill(0), 10);
        due("three lines", fees(x, "add 1;add 2;" + FOUR_TESTS + ":add 4;"), 3);
        due("bill", x.bill(0), 13);
        due("in place of three lines one", fees(x, "add 50;"), 1);
        due("bill", x.bill(0), 60);
        due("line 1 is no more", x.line(0, 1), NO_LINE);
        due("in place of one line two, of which the first had tests once", fees(x, "when age=31:end;add 3;"), 2);
        due("bill", x.bill(0), 13);
        due("without tests where there were some", fees(x, "add 9;"), 1);
        due("bill", x.bill(0), 19);
        x.close();
        due("count(7) without the term", x.count(7), 1);
        due("bill without the term", x.bill(0), 9);
        x.open();
        due("bill in the next one", x.bill(0), 19);
    }

    private static void howManyLines() {
        good("", 0);
        good(" ", 0);
        good("\n \n", 0);
        good(" ".repeat(500), 0);
        for (int lines = 1; lines <= 16; lines++) {
            good("end;".repeat(lines), lines);
        }
        due("fees() of a tape that was never fed", new NightSchool().fees(), 0);
        NightSchool x = new NightSchool();
        x.pupil(0, 0, 1);
        fees(x, "add 5;");
        due("an empty text is one, too", x.fees(), 0);
        due("count(7)", x.count(7), 0);
        due("bill", x.bill(0), 0);
    }

    private static void noneOnFault() {
        String[] faults = {"!", "add 1;!", "add 1;part 1/0;", "add 1;" + FOUR_TESTS + " and age=1:end;", "end;".repeat(17)};
        for (String text : faults) {
            NightSchool x = busy();
            NightSchool twin = busy();
            x.end(0);
            due("fees() of " + shown(text), fees(x, text), NONE);
            same("nothing told is changed behind " + shown(text), picture(x), picture(twin));
            NightSchool y = new NightSchool();
            y.pupil(0, 0, 1);
            fees(y, "add 5;when age=0:add 6;");
            due("fees() of " + shown(text), fees(y, text), NONE);
            due("the lines from before", y.count(7), 2);
            due("line(0, 0)", y.line(0, 0), 5);
            due("line(0, 1)", y.line(0, 1), 6);
            due("the bill from before", y.bill(0), 11);
        }
    }

    private static void latestFees() {
        NightSchool x = new NightSchool();
        due("fault(0) before any fees()", x.fault(0), 0);
        due("fault(1) before any fees()", x.fault(1), NONE);
        fees(x, " !");
        due("fault(0)", x.fault(0), 1);
        due("fault(1)", x.fault(1), 1);
        onTape(x, "part 1/0;");
        due("fault(0) before the next fees()", x.fault(0), 1);
        due("fault(1) before the next fees()", x.fault(1), 1);
        x.fees();
        due("fault(0)", x.fault(0), 2);
        due("fault(1)", x.fault(1), 7);
        fees(x, "end;".repeat(17));
        due("fault(0)", x.fault(0), 3);
        due("fault(1)", x.fault(1), 64);
        due("fees() of an empty tape", x.fees(), 0);
        due("fault(0) without", x.fault(0), 0);
        due("fault(1) without", x.fault(1), NONE);
        fees(x, "!");
        due("fault(1) at the first byte", x.fault(1), 0);
    }

    private static void anotherWhat() {
        for (String text : new String[] {"free;", "!"}) {
            NightSchool x = new NightSchool();
            fees(x, text);
            due("fault(2)", x.fault(2), NONE);
            due("fault(3)", x.fault(3), NONE);
            for (int what : FAR) {
                due("fault(" + what + ")", x.fault(what), NONE);
            }
        }
    }

    private static boolean isLetter(int b) {
        return b >= 'a' && b <= 'z';
    }

    private static boolean isDigit(int b) {
        return b >= '0' && b <= '9';
    }

    private static boolean isBlank(int b) {
        return b == 10 || b == 32;
    }

    private static void blanks() {
        for (int b = 0; b < 256; b++) {
            if (isBlank(b)) {
                good("free;" + (char) b, 1);
                good((char) b + "free" + (char) b + ";", 1);
            } else {
                bad("free;" + (char) b, 1, 5);
                bad("free; \n" + (char) b + ";", 1, 7);
            }
        }
        good("add\n5\n;", 1);
        good(" when  age \n < 5 and\n\nsum = 0 :\npart 1 / 2 ; ", 1);
        bad("f ree;", 1, 0);
        bad("add 1 2;", 1, 6);
    }

    private static void words() {
        for (int b = 0; b < 256; b++) {
            String text = "add" + (char) b + "5;";
            if (isBlank(b) || isDigit(b)) {
                good(text, 1);
            } else {
                bad(text, 1, isLetter(b) ? 0 : 3);
            }
        }
        bad("whenage<1:free;", 1, 0);
        bad("when age<1 andage<1:free;", 1, 11);
        bad("freefree;", 1, 0);
        bad("FREE;", 1, 0);
        bad("fre;", 1, 0);
        bad("frees;", 1, 0);
        bad("a;", 1, 0);
        bad("z".repeat(500), 1, 0);
        good("when age<1and age<1:free;", 1);
    }

    private static void numbers() {
        for (int b = 0; b < 256; b++) {
            String text = "add 5" + (char) b + ";";
            if (isBlank(b) || isDigit(b)) {
                good(text, 1);
            } else {
                // A second ';' ends the line before it can be the byte in the middle.
                bad(text, 1, b == ';' ? 6 : 5);
            }
        }
        adds("add 0;", 0);
        adds("add 9;", 9);
        adds("add 10;", 10);
        adds("add 00009;", 9);
        adds("add 01020;", 1020);
        adds("add 98765;", 98765);
        adds("add 99999;", 99999);
    }

    private static void longerRows() {
        String[] before = {"add ", "less ", "part ", "part 1/", "least ", "most ", "when age<"};
        String[] behind = {";", ";", "/2;", ";", ";", ";", ":free;"};
        for (int i = 0; i < before.length; i++) {
            good(before[i] + "1" + behind[i], 1);
            good(before[i] + "12345" + behind[i], 1);
            bad(before[i] + "123456" + behind[i], 1, before[i].length());
            bad(before[i] + "000001" + behind[i], 1, before[i].length());
            bad(before[i] + "000000" + behind[i], 1, before[i].length());
            bad(before[i] + behind[i], 1, before[i].length());
        }
        bad("add " + "7".repeat(490) + ";", 1, 4);
        bad("123456", 1, 0);
        bad("add 12345 6;", 1, 10);
    }

    private static void signs() {
        for (int b = 0; b < 256; b++) {
            String text = "when age" + (char) b + "5:free;";
            if (b == '<' || b == '>' || b == '=') {
                good(text, 1);
            } else {
                bad(text, 1, isBlank(b) ? 9 : isLetter(b) ? 5 : 8);
            }
        }
        bad("when age<=5:free;", 1, 9);
        bad("when age<5::free;", 1, 11);
        bad("free;;", 1, 5);
        bad("part 1//2;", 1, 7);
    }

    private static final String SUBJECTS = " age purse courses sum first week ";
    private static final String ACTS = " add less part least most free end ";
    private static final String[] ALL = {"when", "and", "age", "purse", "courses", "sum", "first", "week", "add", "less",
        "part", "least", "most", "free", "end", ":", ";", "/", "<", ">", "=", "1", "0", "12345", "123456", "foo", "!", "\u00ff"};
    /** A text's beginning, and the tokens with which a text goes on behind it. */
    private static final String[][] GOES_ON = {
        {"", " when" + ACTS}, {"free;", " when" + ACTS}, {"when age=1:free;", " when" + ACTS},
        {"when", SUBJECTS}, {"when age=1 and", SUBJECTS},
        {"when age", " < > = "}, {"when purse", " < > = "}, {"when courses", " < > = "}, {"when sum", " < > = "},
        {"when first", " < > = "}, {"when week", " < > = "}, {"when age=1 and week", " < > = "},
        {"when age<", " 1 0 12345 "}, {"when age>", " 1 0 12345 "}, {"when age=", " 1 0 12345 "},
        {"when age<1", " and : "}, {"when age=1 and sum>1", " and : "},
        {"when age<1:", ACTS}, {"when age=1 and sum>1:", ACTS},
        {"add", " 1 0 12345 "}, {"less", " 1 0 12345 "}, {"part", " 1 0 12345 "}, {"least", " 1 0 12345 "}, {"most", " 1 0 12345 "},
        {"add 1", " ; "}, {"less 1", " ; "}, {"least 1", " ; "}, {"most 1", " ; "}, {"free", " ; "}, {"end", " ; "},
        {"part 1", " / "}, {"part 1/", " 1 0 12345 "}, {"part 1/2", " ; "}, {"when age<1:part 1/2", " ; "}};

    private static void firstToken() {
        for (String[] state : GOES_ON) {
            for (String token : ALL) {
                String text = state[0] + " " + token;
                if (!state[1].contains(" " + token + " ")) {
                    bad(text, 1, state[0].length() + 1);
                    bad(text + " free;", 1, state[0].length() + 1);
                } else if (token.equals(";")) {
                    good(text, 1);
                } else {
                    bad(text, 1, text.length());
                }
            }
        }
    }

    private static void theEnd() {
        for (String[] state : GOES_ON) {
            if (!state[0].isEmpty() && !state[0].endsWith(";")) {
                bad(state[0], 1, state[0].length());
                bad(state[0] + " \n", 1, state[0].length() + 2);
            }
        }
        bad(" ".repeat(496) + "free", 1, 500);
        bad("free" + " ".repeat(496), 1, 500);
        bad(" ".repeat(495) + "add 5", 1, 500);
        bad(" ".repeat(491) + "add 12345", 1, 500);
        good(" ".repeat(495) + "free;", 1);
        bad(";".repeat(500), 1, 0);
        bad("when" + ":".repeat(496), 1, 4);
        NightSchool x = new NightSchool();
        onTape(x, "free;end;");
        x.end(8);
        due("what stood behind the end is no part of the text", x.fees(), NONE);
        due("fault(1)", x.fault(1), 8);
        onTape(x, "add 123456;");
        x.end(9);
        due("nor is a digit there part of its last number", x.fees(), NONE);
        due("fault(1)", x.fault(1), 9);
        onTape(x, "addx");
        x.end(3);
        due("nor is a letter there part of its last word", x.fees(), NONE);
        due("fault(1)", x.fault(1), 3);
    }

    private static void textBeforeTheOthers() {
        bad("part 1/0;!", 1, 9);
        bad("part 1/0;part 1/0", 1, 17);
        bad("part 1/0", 1, 8);
        bad("end;".repeat(17) + "end", 1, 71);
        bad("end;".repeat(16) + "foo;", 1, 64);
        bad("end;".repeat(16) + "when age=1 free;", 1, 75);
        bad(FOUR_TESTS + " and age=1;", 1, 53);
        bad(FOUR_TESTS + " and foo=1:end;", 1, 48);
        bad(FOUR_TESTS + " and age=1:part 1/0;free", 1, 67);
    }

    private static void zeroBehindSlash() {
        bad("part 1/0;", 2, 7);
        bad("part 1/00000;", 2, 7);
        bad("part 1/ \n0;", 2, 9);
        bad("part 0/0;", 2, 7);
        bad("free;part 1/0;", 2, 12);
        bad("when age=0:part 1/0;", 2, 18);
        bad("part 1/1;part 1/0;part 1/0;", 2, 16);
        bad("end;".repeat(15) + "part 1/0;", 2, 67);
        good("part 0/1;", 1);
        good("part 0/00001;", 1);
        good("part 1/10000;", 1);
        good("add 0;less 0;least 0;most 0;when age=0:free;", 5);
    }

    private static void line17() {
        good("end;".repeat(16), 16);
        bad("end;".repeat(17), TOO_MANY, 64);
        bad("end;".repeat(125), TOO_MANY, 64);
        bad("end;".repeat(16) + " \n free;", TOO_MANY, 67);
        bad("end;".repeat(16) + "when age=1:end;", TOO_MANY, 64);
        bad("end;".repeat(17) + "when age=1 and age=1:end;".repeat(10), TOO_MANY, 64);
        good("end;".repeat(16) + " \n", 16);
        good("when age=1:add 1;".repeat(16), 16);
    }

    private static void test5() {
        good(FOUR_TESTS + ":end;", 1);
        good((FOUR_TESTS + ":end;").repeat(10), 10);
        bad(FOUR_TESTS + " and age=1:end;", TOO_MANY, 48);
        bad(FOUR_TESTS + " and \n age=1:end;", TOO_MANY, 50);
        bad(FOUR_TESTS + " and age=1 and age=1:end;", TOO_MANY, 48);
        bad("free;" + FOUR_TESTS + " and age=1:end;", TOO_MANY, 53);
        bad("when age=1" + " and age=1".repeat(40) + ":end;", TOO_MANY, 45);
        bad("end;".repeat(15) + FOUR_TESTS + " and age=1:end;", TOO_MANY, 108);
        bad("end;".repeat(15) + FOUR_TESTS + " and age=1".repeat(30) + ":end;", TOO_MANY, 108);
    }

    private static void theFirstOfThese() {
        bad("part 1/0;" + FOUR_TESTS + " and age=1:end;", 2, 7);
        bad(FOUR_TESTS + " and age=1:part 1/0;", TOO_MANY, 48);
        bad(FOUR_TESTS + " and age=1:end;part 1/0;", TOO_MANY, 48);
        bad("end;".repeat(15) + "part 1/0;end;", 2, 67);
        bad("end;".repeat(16) + "part 1/0;", TOO_MANY, 64);
        bad("end;".repeat(16) + FOUR_TESTS + " and age=1:end;", TOO_MANY, 64);
        bad("end;".repeat(15) + FOUR_TESTS + " and age=1:end;end;", TOO_MANY, 108);
    }

    public static void main(String[] args) {
        sentence(4, "The tape is taken (and is empty then)", FeesEdgeTest::tapeIsEmptyThen);
        sentence(4, "as a TEXT of FEES, which holds from now on", FeesEdgeTest::holdsFromNowOn);
        sentence(4, "how many LINES", FeesEdgeTest::howManyLines);
        sentence(4, "NONE: a FAULT", FeesEdgeTest::noneOnFault);
        sentence(5, "Of the latest fees() .. the FAULT, 0 without .. its place, NONE without", FeesEdgeTest::latestFees);
        sentence(5, "NONE for another what", FeesEdgeTest::anotherWhat);
        sentence(5, "blanks (10, 32) between", FeesEdgeTest::blanks);
        sentence(5, "WORDS, rows of letters a .. z", FeesEdgeTest::words);
        sentence(5, "NUMBERS, 1 to 5 digits", FeesEdgeTest::numbers);
        sentence(5, "a longer row of digits is no token", FeesEdgeTest::longerRows);
        sentence(5, "signs .. one byte each", FeesEdgeTest::signs);
        sentence(5, "1 the first byte or token with which no text goes on", FeesEdgeTest::firstToken);
        sentence(5, "the end's", FeesEdgeTest::theEnd);
        sentence(5, "If there is none: the first of these", FeesEdgeTest::textBeforeTheOthers);
        sentence(5, "2 a NUMBER behind '/' that is 0", FeesEdgeTest::zeroBehindSlash);
        sentence(5, "3 one too many, at its first token: a 17th LINE", FeesEdgeTest::line17);
        sentence(5, "3 one too many, at its first token: .. a 5th TEST of a LINE", FeesEdgeTest::test5);
        sentence(5, "the first of these", FeesEdgeTest::theFirstOfThese);
        finish();
    }
}
