/** Promises 20 and 21, and the bills of terms 3: the edges of tests, acts and sums. */
public final class BillEdgeTest extends Edge {
    private static final int TOP = 1000000000;
    /** A sum of 1000 becomes 1000000000 by these two lines. */
    private static final String TO_TOP = "part 10000/1;part 100/1;";

    /** A pupil in a term, who has one course at this price. */
    private static NightSchool payer(int price) {
        NightSchool x = new NightSchool();
        x.room(9);
        x.course(0, 0, 1, 9, price);
        x.pupil(30, 1, 3);
        x.wish(0, 0);
        x.open();
        return x;
    }

    private static void bill(int price, String text, int want) {
        NightSchool x = payer(price);
        due("fees() of " + text, fees(x, text) > 0, true);
        due("bill of " + price + " by " + text, x.bill(0), want);
        long changes = price;
        for (int k = 0; k < x.count(7); k++) {
            changes += x.line(0, k);
        }
        due("what the lines change of " + price + " by " + text, changes, want);
    }

    /** Whether a pupil of whom this value is 'value' passes the tests < n, > n and = n, for n about it. */
    private static void about(NightSchool x, String subject, int value) {
        for (int n = Math.max(0, value - 1); n <= value + 1; n++) {
            fees(x, "free;when " + subject + "<" + n + ":add 1;");
            due(subject + " " + value + " < " + n, x.line(0, 1), bit(value < n));
            fees(x, "free;when " + subject + ">" + n + ":add 1;");
            due(subject + " " + value + " > " + n, x.line(0, 1), bit(value > n));
            fees(x, "free;when " + subject + "=" + n + ":add 1;");
            due(subject + " " + value + " = " + n, x.line(0, 1), bit(value == n));
        }
    }

    private static void sumOfPrices() {
        due("without a course", school(seats(), courses(), row(1)).bill(0), 0);
        due("a price of 0", payer(0).bill(0), 0);
        due("a price of 1", payer(1).bill(0), 1);
        due("a price of 1000", payer(1000).bill(0), 1000);
        NightSchool x = new NightSchool();
        x.room(9);
        for (int c = 0; c < 5; c++) {
            x.course(c, 0, 1, 9, c == 4 ? 999 : 1000);
        }
        x.pupil(1, 1, 3);
        x.pupil(1, 1, 1);
        for (int c = 0; c < 4; c++) {
            x.wish(0, c);
        }
        x.wish(1, 4);
        due("before the term", x.bill(0), 0);
        x.open();
        due("three at 1000", x.bill(0), 3000);
        due("the other pupil", x.bill(1), 999);
        x.quit(0, 1);
        due("two at 1000", x.bill(0), 2000);
        x.close();
        due("behind the term", x.bill(0), 0);
    }

    private static void ages() {
        for (int age : new int[] {0, 1, 18, 119, 120}) {
            NightSchool x = new NightSchool();
            x.pupil(age, 0, 1);
            about(x, "age", age);
        }
    }

    private static void purses() {
        for (int purse = 0; purse <= 2; purse++) {
            NightSchool x = new NightSchool();
            x.pupil(50, purse, 1);
            about(x, "purse", purse);
        }
    }

    private static void howManyCourses() {
        for (int has = 0; has <= 3; has++) {
            NightSchool x = school(seats(9), courses(row(0, 0, 1, 9), row(1, 0, 1, 9), row(2, 0, 1, 9), row(3, 0, 9, 9)), row(3, 3));
            for (int c = 0; c < has; c++) {
                x.wish(0, c);
            }
            x.open();
            about(x, "courses", has);
        }
    }

    private static void sums() {
        about(payer(0), "sum", 0);
        for (int sum : new int[] {0, 1, 99998, 99999}) {
            NightSchool x = payer(0);
            for (int n = Math.max(0, sum - 1); n <= Math.min(99999, sum + 1); n++) {
                fees(x, "add " + sum + ";when sum<" + n + ":add 1;");
                due("sum " + sum + " < " + n, x.line(0, 1), bit(sum < n));
                fees(x, "add " + sum + ";when sum>" + n + ":add 1;");
                due("sum " + sum + " > " + n, x.line(0, 1), bit(sum > n));
                fees(x, "add " + sum + ";when sum=" + n + ":add 1;");
                due("sum " + sum + " = " + n, x.line(0, 1), bit(sum == n));
            }
        }
        bill(500, "when sum=500:add 1;when sum=500:add 2;when sum=501:add 4;", 505);
        bill(1000, TO_TOP + "when sum>99999:less 1;", TOP - 1);
    }

    private static void firstWish() {
        NightSchool x = school(seats(9), courses(row(0, 0, 1, 1), row(1, 0, 1, 9), row(2, 0, 9, 9)), row(1), row(2, 0, 1), row(2, 0, 1));
        x.open();
        about(x, "first", 0);
        fees(x, "free;when first=1:add 1;");
        due("pupil 0, without wishes", x.bill(0), 0);
        due("pupil 1, who has it", x.bill(1), 1);
        due("pupil 2, who has the second alone", x.bill(2), 0);
        x.quit(2, 1);
        due("pupil 2, who has none", x.bill(2), 0);
        x.quit(1, 0);
        due("pupil 1: the second is the first now", x.bill(1), 1);
        due("pupil 2 has moved up", x.bill(2), 1);
        x.close();
        due("behind the term", x.bill(1), 0);
        about(payer(7), "first", 1);
    }

    private static void weekOfTerm() {
        NightSchool x = new NightSchool();
        x.pupil(1, 1, 1);
        about(x, "week", 0);
        x.open();
        about(x, "week", 0);
        x.weeks(1);
        about(x, "week", 1);
        x.weeks(20);
        about(x, "week", 21);
        x.close();
        about(x, "week", 0);
    }

    private static void allItsTests() {
        String[] holds = {"age=30", "purse=1", "courses=1", "sum=10"};
        String[] fails = {"age=31", "purse=2", "courses=2", "sum=11"};
        for (int tests = 1; tests <= 4; tests++) {
            for (int failing = 0; failing < 1 << tests; failing++) {
                StringBuilder text = new StringBuilder();
                for (int i = 0; i < tests; i++) {
                    text.append(i == 0 ? "when " : " and ").append((failing >> i & 1) == 1 ? fails[i] : holds[i]);
                }
                bill(10, text + ":add 1;", failing == 0 ? 11 : 10);
                bill(10, "less 0;".repeat(15) + text + ":add 1;", failing == 0 ? 11 : 10);
            }
        }
        bill(10, "when age=31:free;when age=30:add 5;when age=31:end;add 6;", 21);
    }

    private static void add() {
        bill(10, "add 0;", 10);
        bill(10, "add 1;", 11);
        bill(0, "add 99999;", 99999);
        bill(1000, "add 99999;add 99999;", 200998);
        bill(0, "add 99999;".repeat(16), 16 * 99999);
    }

    private static void less() {
        bill(10, "less 0;", 10);
        bill(10, "less 9;", 1);
        bill(10, "less 10;", 0);
        bill(10, "less 11;", 0);
        bill(10, "less 99999;", 0);
        bill(0, "less 1;", 0);
        bill(10, "less 11;add 3;", 3);
    }

    private static void part() {
        bill(10, "part 1/1;", 10);
        bill(10, "part 0/1;", 0);
        bill(10, "part 1/3;", 3);
        bill(10, "part 2/3;", 6);
        bill(10, "part 1/10;", 1);
        bill(10, "part 1/11;", 0);
        bill(10, "part 99999/99998;", 10);
        bill(10, "part 99999/99999;", 10);
        bill(10, "part 99999/1;", 999990);
        bill(10, "part 1/99999;", 0);
        bill(0, "part 99999/1;", 0);
        bill(1, "part 1/2;part 2/1;", 0);
    }

    private static void leastAndMost() {
        bill(10, "least 9;", 10);
        bill(10, "least 10;", 10);
        bill(10, "least 11;", 11);
        bill(10, "least 0;", 10);
        bill(0, "least 99999;", 99999);
        bill(10, "most 9;", 9);
        bill(10, "most 10;", 10);
        bill(10, "most 11;", 10);
        bill(10, "most 0;", 0);
        bill(1000, TO_TOP + "most 99999;", 99999);
        bill(1000, TO_TOP + "least 99999;", TOP);
    }

    private static void freeAndEnd() {
        bill(10, "free;", 0);
        bill(0, "free;", 0);
        bill(10, "free;add 4;", 4);
        bill(10, "end;", 10);
        bill(10, "add 1;end;add 2;free;", 11);
        bill(10, "when age=31:end;add 2;", 12);
        bill(10, "when age=30:end;add 2;", 10);
        bill(10, "end;".repeat(15) + "add 2;", 10);
        bill(10, "add 1;".repeat(15) + "end;", 25);
    }

    private static void notAboveTop() {
        bill(1000, TO_TOP, TOP);
        bill(1000, TO_TOP + "add 0;", TOP);
        bill(1000, TO_TOP + "add 1;", TOP);
        bill(1000, TO_TOP + "add 99999;less 1;", TOP - 1);
        bill(1000, TO_TOP + "less 1;", TOP - 1);
        bill(1000, TO_TOP + "less 1;add 1;", TOP);
        bill(1000, TO_TOP + "less 1;add 2;", TOP);
        bill(1000, TO_TOP + "less 2;add 1;", TOP - 1);
        bill(1000, TO_TOP + "part 99999/1;", TOP);
        bill(1000, TO_TOP + "part 99999/99998;", TOP);
        bill(1000, TO_TOP + "part 99999/99999;", TOP);
        bill(1000, TO_TOP + "part 99998/99999;", 999989999);
        bill(1000, TO_TOP + "part 2/3;", 666666666);
        bill(1000, TO_TOP + "part 1/99999;", 10000);
        bill(1000, "part 10000/1;part 101/1;", TOP);
        bill(1000, "part 99999/1;".repeat(16), TOP);
    }

    private static void billNone() {
        NightSchool x = busy();
        due("bill(4)", x.bill(4), NONE);
        due("bill(30)", x.bill(30), NONE);
        for (int n : FAR) {
            due("bill(" + n + ")", x.bill(n), NONE);
        }
        NightSchool y = new NightSchool();
        due("a new object", y.bill(0), NONE);
        for (int p = 0; p < 30; p++) {
            y.pupil(0, 0, 1);
            due("the last pupil", y.bill(p), 0);
            due("one behind it", y.bill(p + 1), NONE);
        }
    }

    private static void lines(int price, String text, int... want) {
        NightSchool x = payer(price);
        due("fees() of " + text, fees(x, text), want.length);
        for (int k = 0; k < want.length; k++) {
            due("line(0, " + k + ") of " + text, x.line(0, k), want[k]);
        }
        due("one behind the last", x.line(0, want.length), NO_LINE);
    }

    private static void howMuch() {
        lines(10, "add 5;less 3;part 1/2;least 8;most 7;free;end;", 5, -3, -6, 2, -1, -7, 0);
        lines(10, "add 0;less 0;part 1/1;least 10;most 10;end;", 0, 0, 0, 0, 0, 0);
        lines(10, "less 11;less 1;", -10, 0);
        lines(1000, TO_TOP + "add 5;free;free;", 9999000, 990000000, 0, -TOP, 0);
        lines(1000, "part 99999/1;part 99999/1;most 0;", 99998000, TOP - 99999000, -TOP);
        lines(0, "add 1;".repeat(16), 1, 1, 1, 1, 1, 1, 1, 1, 1, 1, 1, 1, 1, 1, 1, 1);
    }

    private static void testsDontHold() {
        lines(10, "when age=31:add 5;when age=30:add 6;when sum=10:add 7;", 0, 6, 0);
        lines(10, "when age=30 and purse=2:free;add 1;", 0, 1);
    }

    private static void notComeTo() {
        lines(10, "add 1;end;add 2;free;", 1, 0, 0, 0);
        lines(10, "when age=30:end;add 2;end;", 0, 0, 0);
        lines(10, "when age=31:end;add 2;end;add 3;", 0, 2, 0, 0);
    }

    private static void lineNone() {
        NightSchool x = busy();
        due("line(0, 2)", x.line(0, 2), NO_LINE);
        due("line(0, 16)", x.line(0, 16), NO_LINE);
        due("line(4, 0)", x.line(4, 0), NO_LINE);
        due("line(30, 0)", x.line(30, 0), NO_LINE);
        for (int n : FAR) {
            due("line(" + n + ", 0)", x.line(n, 0), NO_LINE);
            due("line(0, " + n + ")", x.line(0, n), NO_LINE);
            due("line(" + n + ", " + n + ")", x.line(n, n), NO_LINE);
        }
        NightSchool y = payer(10);
        due("without fees", y.line(0, 0), NO_LINE);
        fees(y, "");
        due("with none", y.line(0, 0), NO_LINE);
        fees(y, "end;");
        due("the only one", y.line(0, 0), 0);
        due("a new object", new NightSchool().line(0, 0), NO_LINE);
        NightSchool z = new NightSchool();
        fees(z, "end;");
        due("fees without pupils", z.line(0, 0), NO_LINE);
    }

    public static void main(String[] args) {
        sentence(20, "the SUM is the PRICES of the COURSES that the PUPIL has", BillEdgeTest::sumOfPrices);
        sentence(20, "TEST: 'age' ('<' | '>' | '=') NUMBER", BillEdgeTest::ages);
        sentence(20, "TEST: 'purse' ('<' | '>' | '=') NUMBER", BillEdgeTest::purses);
        sentence(20, "courses: how many it has", BillEdgeTest::howManyCourses);
        sentence(20, "TEST: 'sum' ('<' | '>' | '=') NUMBER", BillEdgeTest::sums);
        sentence(20, "first: 1 if it has its WISH of RANK 0, else 0", BillEdgeTest::firstWish);
        sentence(20, "week: of the TERM, 0 without", BillEdgeTest::weekOfTerm);
        sentence(20, "if all its TESTS hold", BillEdgeTest::allItsTests);
        sentence(20, "its ACT: add", BillEdgeTest::add);
        sentence(20, "less (0 at least)", BillEdgeTest::less);
        sentence(20, "part a / b: SUM * a / b, cut", BillEdgeTest::part);
        sentence(20, "least, most: it becomes that if it is less, more", BillEdgeTest::leastAndMost);
        sentence(20, "free: 0; end: no further LINE", BillEdgeTest::freeAndEnd);
        sentence(20, "64 bits are enough: what would be above 1000000000 is that", BillEdgeTest::notAboveTop);
        sentence(20, "NONE if there is none such", BillEdgeTest::billNone);
        sentence(21, "By how much LINE k of the FEES changes a PUPIL's BILL", BillEdgeTest::howMuch);
        sentence(21, "0, too, if its TESTS don't hold", BillEdgeTest::testsDontHold);
        sentence(21, "or it is not come to", BillEdgeTest::notComeTo);
        sentence(21, "-2000000000 if there is none such (of either)", BillEdgeTest::lineNone);
        finish();
    }
}
