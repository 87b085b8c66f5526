import java.util.function.ToLongFunction;

/** Promises 16 to 19, 22 and 23: the edges of all that is told of courses, pupils, hours and numbers. */
public final class TellEdgeTest extends Edge {
    /** Held or not, two rooms, and a course that nobody wishes. */
    private static NightSchool term() {
        NightSchool x = new NightSchool();
        x.room(3);
        x.room(7);
        x.course(0, 0, 1, 40, 0);
        x.course(4, 5, 2, 2, 1000);
        x.course(2, 3, 40, 40, 500);
        x.pupil(0, 0, 1);
        x.pupil(120, 2, 3);
        x.wish(0, 1);
        x.wish(1, 1);
        x.wish(1, 0);
        x.open();
        return x;
    }

    private static void tells(String when, NightSchool x, int course, int... want) {
        for (int what = 0; what < want.length; what++) {
            due(when + ": tell(" + course + ", " + what + ")", x.tell(course, what), want[what]);
        }
    }

    private static void tellEach() {
        NightSchool x = term();
        tells("week 0", x, 0, 0, 0, 1, 40, 0, 1, 1, 7, 1, 0);
        tells("week 0", x, 1, 4, 5, 2, 2, 1000, 1, 1, 2, 2, 0);
        tells("week 0", x, 2, 2, 3, 40, 40, 500, 0, NONE, 0, 0, 0);
        x.weeks(3);
        tells("week 3", x, 1, 4, 5, 2, 2, 1000, 1, 1, 2, 2, 3);
        tells("week 3", x, 2, 2, 3, 40, 40, 500, 0, NONE, 0, 0, 0);
        x.quit(1, 0);
        tells("without pupils", x, 0, 0, 0, 1, 40, 0, 1, 1, 7, 0, 3);
        x.weeks(2);
        tells("fallen", x, 0, 0, 0, 1, 40, 0, 0, NONE, 0, 0, 4);
        x.close();
        tells("behind the term", x, 0, 0, 0, 1, 40, 0, 0, NONE, 0, 0, 0);
        tells("behind the term", x, 1, 4, 5, 2, 2, 1000, 0, NONE, 0, 0, 0);
    }

    private static void tellNoCourse() {
        NightSchool x = term();
        for (int what = 0; what <= 9; what++) {
            due("tell(3, " + what + ")", x.tell(3, what), NONE);
            due("tell(-1, " + what + ")", x.tell(-1, what), NONE);
            due("tell(10, " + what + ")", x.tell(10, what), NONE);
        }
        for (int n : FAR) {
            due("tell(" + n + ", 0)", x.tell(n, 0), NONE);
        }
        NightSchool y = new NightSchool();
        due("tell(0, 0) of a new object", y.tell(0, 0), NONE);
        for (int c = 0; c < 10; c++) {
            y.course(0, 0, 1, 1, 77);
            due("the last course", y.tell(c, 4), 77);
            due("one behind it", y.tell(c + 1, 4), NONE);
        }
    }

    private static void tellAnotherWhat() {
        NightSchool x = term();
        for (int c = 0; c < 3; c++) {
            due("tell(" + c + ", 10)", x.tell(c, 10), NONE);
            due("tell(" + c + ", 11)", x.tell(c, 11), NONE);
            for (int what : FAR) {
                due("tell(" + c + ", " + what + ")", x.tell(c, what), NONE);
            }
        }
    }

    private static void personEach() {
        NightSchool x = term();
        int[] youngest = {0, 0, 1, 0b10, 1, 6, 0};
        int[] oldest = {120, 2, 3, 0b11, 2, 11, 0};
        for (int what = 0; what < 7; what++) {
            due("person(0, " + what + ")", x.person(0, what), youngest[what]);
            due("person(1, " + what + ")", x.person(1, what), oldest[what]);
        }
        x.quit(1, 1);
        due("points behind a quit", x.person(1, 5), 6);
        NightSchool y = new NightSchool();
        y.room(9);
        for (int c = 0; c < 10; c++) {
            y.course(c % 5, 0, 1, 9, 0);
        }
        y.pupil(5, 1, 1);
        y.wish(0, 9);
        y.open();
        due("the bit of the tenth course", y.person(0, 3), 512);
    }

    private static void timesMoved() {
        NightSchool x = school(seats(9, 9), courses(row(0, 0, 1, 1), row(0, 1, 1, 1), row(1, 0, 1, 1)),
            row(1, 0), row(1, 1), row(2, 0, 1, 2));
        due("open()", x.open(), 6 + 6 + 4);
        due("placing is no move", x.person(2, 6), 0);
        x.quit(1, 1);
        due("a first move", x.person(2, 6), 1);
        x.quit(0, 0);
        due("a second move", x.person(2, 6), 2);
        due("it has the first wish now", x.person(2, 3), 0b101);
        x.weeks(1);
        due("none in a week", x.person(2, 6), 2);
        due("none of the others", x.person(0, 6) + x.person(1, 6), 0);
        due("in all", x.count(8), 2);
        x.close();
        x.open();
        due("in the next term", x.person(2, 6), 0);
        due("in all", x.count(8), 0);
    }

    private static void coursesOfRanks() {
        NightSchool x = new NightSchool();
        for (int c = 0; c < 7; c++) {
            x.course(0, 0, 1, 1, 0);
        }
        x.pupil(0, 0, 1);
        x.pupil(0, 0, 1);
        x.wish(1, 0);
        for (int wishes = 0; wishes <= 6; wishes++) {
            for (int rank = 0; rank < 6; rank++) {
                due(wishes + " wishes: person(0, " + (10 + rank) + ")", x.person(0, 10 + rank), rank < wishes ? 6 - rank : NONE);
            }
            x.wish(0, 6 - wishes);
        }
        for (int what : new int[] {7, 8, 9, 16, 17, 18, 19}) {
            due("person(0, " + what + ")", x.person(0, what), NONE);
        }
        due("a pupil's first wish is not the one behind the other's last", x.person(1, 10), 0);
    }

    private static void coursesOfEvenings() {
        for (int evening = 0; evening < 5; evening++) {
            NightSchool x = school(seats(9), courses(row(1, 0, 5, 5), row(evening, 0, 1, 9)), row(1, 1));
            due("person(0, " + (20 + evening) + ") before the term", x.person(0, 20 + evening), NONE);
            x.open();
            for (int what = 19; what <= 26; what++) {
                due("evening " + evening + ": person(0, " + what + ")", x.person(0, what), what == 20 + evening ? 1 : NONE);
            }
        }
        NightSchool y = school(seats(9), courses(row(0, 0, 1, 9), row(2, 0, 1, 9), row(4, 0, 1, 9)), row(3, 2, 1, 0));
        y.open();
        int[] want = {0, NONE, 1, NONE, 2};
        for (int evening = 0; evening < 5; evening++) {
            due("person(0, " + (20 + evening) + ")", y.person(0, 20 + evening), want[evening]);
        }
    }

    private static void personNone() {
        NightSchool x = term();
        for (int what = 0; what <= 24; what++) {
            due("person(2, " + what + ")", x.person(2, what), NONE);
            due("person(-1, " + what + ")", x.person(-1, what), NONE);
            due("person(30, " + what + ")", x.person(30, what), NONE);
        }
        for (int n : FAR) {
            due("person(" + n + ", 0)", x.person(n, 0), NONE);
            due("person(0, " + n + ")", x.person(0, n), NONE);
        }
        for (int what : new int[] {7, 8, 9, 16, 19, 25, 26, 30}) {
            due("person(1, " + what + ")", x.person(1, what), NONE);
        }
        NightSchool y = new NightSchool();
        for (int p = 0; p < 30; p++) {
            y.pupil(33, 0, 1);
            due("the last pupil", y.person(p, 0), 33);
            due("one behind it", y.person(p + 1, 0), NONE);
        }
    }

    /**
     * On evening 0 the courses 0 (one place) and 1; course 2 (one place) on evening 1; course 3 on evening 0 is not held.
     * Pupil 0 has 0; pupil 1 has 2; pupil 2 has 1 and wants no more; pupil 3 wants two and has 1.
     */
    private static NightSchool reasons() {
        NightSchool x = school(seats(9, 9, 9), courses(row(0, 0, 1, 1), row(0, 1, 2, 9), row(1, 0, 1, 1), row(0, 2, 9, 9)),
            row(1, 0, 2, 1, 3), row(1, 2, 0), row(1, 1, 0, 2, 3), row(2, 0, 1, 2));
        due("open()", x.open(), 6 + 6 + 6 + 5);
        return x;
    }

    private static void whyHasIt() {
        NightSchool x = reasons();
        due("pupil 0", x.why(0, 0), 0);
        due("pupil 1", x.why(1, 2), 0);
        due("pupil 2", x.why(2, 1), 0);
        due("pupil 3", x.why(3, 1), 0);
        x.quit(0, 0);
        due("given up", x.why(0, 0), 1);
        due("moved up", x.why(3, 0), 0);
        due("left by moving up", x.why(3, 1), 3);
    }

    private static void whyNoWish() {
        NightSchool x = reasons();
        due("a course that has places", x.why(1, 1), 1);
        due("a course that is not held", x.why(1, 3), 1);
        due("before a term", school(seats(9), courses(row(0, 0, 1, 1)), row(1)).why(0, 0), 1);
        NightSchool y = school(seats(9), courses(row(0, 0, 1, 1)), row(1, 0), row(1));
        y.open();
        due("a full one", y.why(1, 0), 1);
    }

    private static void whyNotHeld() {
        NightSchool x = reasons();
        due("it has one on that evening that it wishes more", x.why(0, 3), 2);
        due("it has as many as it wants", x.why(2, 3), 2);
        NightSchool y = school(seats(9), courses(row(0, 0, 1, 1)), row(1, 0));
        due("before a term", y.why(0, 0), 2);
        y.open();
        due("in it", y.why(0, 0), 0);
        y.close();
        due("behind it", y.why(0, 0), 2);
        NightSchool z = school(seats(9), courses(row(0, 0, 3, 9)), crowd(3, 0));
        z.open();
        z.quit(0, 0);
        z.quit(1, 0);
        z.weeks(1);
        due("fallen", z.why(2, 0), 2);
    }

    private static void whyWishesMore() {
        NightSchool x = reasons();
        due("it has as many as it wants, and a place is left", x.why(0, 1), 3);
        due("it has as many as it wants, and no place is left", x.why(2, 0), 3);
        NightSchool y = school(seats(9, 9), courses(row(0, 0, 1, 9), row(0, 1, 1, 9)), row(3, 0, 1), row(1, 1));
        y.open();
        due("it has fewer than it wants, and a place is left", y.why(0, 1), 3);
        NightSchool z = school(seats(9, 9), courses(row(0, 0, 1, 9), row(0, 1, 1, 1)), row(3, 0, 1), row(1, 1));
        z.open();
        due("it has fewer than it wants, and no place is left", z.why(0, 1), 3);
    }

    private static void whyEnough() {
        NightSchool x = reasons();
        due("no place is left", x.why(0, 2), 4);
        due("no place is left", x.why(1, 0), 4);
        due("no place is left", x.why(2, 2), 4);
        for (int wants = 1; wants <= 3; wants++) {
            NightSchool y = school(seats(9), courses(row(0, 0, 1, 9), row(1, 0, 1, 9), row(2, 0, 1, 9), row(3, 0, 1, 9)),
                row(wants, 0, 1, 2, 3), row(3, 3, 2, 1));
            y.open();
            for (int c = 0; c < 4; c++) {
                due("wants " + wants + ": why(0, " + c + ")", y.why(0, c), c < wants ? 0 : 4);
            }
        }
    }

    private static void whyNoPlace() {
        NightSchool x = reasons();
        due("it has one on that evening that it wishes less", x.why(3, 0), 5);
        due("it has none on that evening, and one of two", x.why(3, 2), 5);
        NightSchool y = school(seats(9, 9), courses(row(0, 0, 1, 1), row(0, 1, 1, 9)), row(1, 0), row(1, 0, 1), row(1, 0));
        y.open();
        due("it has as many as it wants, but one that it wishes less", y.why(1, 0), 5);
        due("it has nothing", y.why(2, 0), 5);
    }

    private static void whyNone() {
        NightSchool x = reasons();
        for (int n : new int[] {4, 29, 30}) {
            due("why(" + n + ", 0)", x.why(n, 0), NONE);
        }
        for (int n : new int[] {4, 9, 10, 32}) {
            due("why(0, " + n + ")", x.why(0, n), NONE);
        }
        for (int n : FAR) {
            due("why(" + n + ", 0)", x.why(n, 0), NONE);
            due("why(0, " + n + ")", x.why(0, n), NONE);
            due("why(" + n + ", " + n + ")", x.why(n, n), NONE);
        }
        due("why(3, 3)", x.why(3, 3), 1);
        due("a new object", new NightSchool().why(0, 0), NONE);
    }

    private static void hoursEach() {
        NightSchool x = term();
        for (int k = 0; k < 6; k++) {
            due("teacher " + k + " in week 0", x.hours(0, k), 0);
        }
        due("room 0 in week 0", x.hours(1, 0), 0);
        x.weeks(20);
        for (int k = 0; k < 6; k++) {
            due("teacher " + k + " in week 20", x.hours(0, k), k == 0 || k == 5 ? 40 : 0);
        }
        due("room 0 in week 20", x.hours(1, 0), 0);
        due("room 1 in week 20", x.hours(1, 1), 80);
        NightSchool y = new NightSchool();
        for (int k = 0; k < 6; k++) {
            due("teacher " + k + " of a new object", y.hours(0, k), 0);
        }
        y.room(1);
        due("room 0 without a term", y.hours(1, 0), 0);
    }

    private static void hoursNone() {
        NightSchool x = term();
        x.weeks(1);
        due("teacher 6", x.hours(0, 6), NONE);
        due("teacher -1", x.hours(0, -1), NONE);
        due("room 2", x.hours(1, 2), NONE);
        due("room 5", x.hours(1, 5), NONE);
        due("room -1", x.hours(1, -1), NONE);
        for (int k : FAR) {
            due("teacher " + k, x.hours(0, k), NONE);
            due("room " + k, x.hours(1, k), NONE);
        }
        NightSchool y = new NightSchool();
        due("room 0 of a new object", y.hours(1, 0), NONE);
        for (int k = 0; k < 5; k++) {
            y.room(1);
            due("the last room", y.hours(1, k), 0);
            due("one behind it", y.hours(1, k + 1), NONE);
        }
    }

    private static void hoursAnotherWhat() {
        NightSchool x = term();
        for (int k = 0; k < 3; k++) {
            due("hours(2, " + k + ")", x.hours(2, k), NONE);
            due("hours(-1, " + k + ")", x.hours(-1, k), NONE);
            for (int what : FAR) {
                due("hours(" + what + ", " + k + ")", x.hours(what, k), NONE);
            }
        }
    }

    private static void counts(String when, NightSchool x, int... want) {
        for (int what = 0; what < want.length; what++) {
            due(when + ": count(" + what + ")", x.count(what), want[what]);
        }
    }

    private static void countEach() {
        NightSchool x = calm();
        counts("before the term", x, 2, 3, 4, 0, 0, 0, NONE, 2, 0);
        x.open();
        counts("week 0", x, 2, 3, 4, 3, 4, 6 + 5 + 4 + 5, 0, 2, 0);
        x.quit(0, 0);
        counts("behind a quit", x, 2, 3, 4, 3, 4, 6 + 4 + 6 + 5, 0, 2, 2);
        x.weeks(3);
        counts("week 3", x, 2, 3, 4, 3, 4, 21, 3, 2, 2);
        x.close();
        counts("behind the term", x, 2, 3, 4, 0, 0, 0, NONE, 2, 0);
    }

    private static void countFull() {
        NightSchool x = new NightSchool();
        for (int i = 0; i < 30; i++) {
            x.room(40);
            x.course(i % 5, i / 5, 1, 40, 0);
            x.pupil(9, 0, 3);
        }
        counts("full", x, 5, 10, 30, 0, 0, 0, NONE, 0, 0);
        for (int i = 0; i < 30; i++) {
            for (int rank = 0; rank < 6; rank++) {
                x.wish(i, (i + rank) % 10);
            }
        }
        due("open()", x.open(), 450);
        fees(x, "end;".repeat(16));
        counts("full, in a term", x, 5, 10, 30, 10, 90, 450, 0, 16, 0);
    }

    private static void countAnotherWhat() {
        NightSchool x = busy();
        due("count(9)", x.count(9), NONE);
        due("count(10)", x.count(10), NONE);
        for (int what : FAR) {
            due("count(" + what + ")", x.count(what), NONE);
        }
    }

    private static void kthThatWaits() {
        NightSchool x = school(seats(9), courses(row(0, 0, 1, 1)), crowd(30, 0));
        x.open();
        for (int k = 0; k < 29; k++) {
            due("waits(0, " + k + ")", x.waits(0, k), k + 1);
        }
        due("waits(0, 29)", x.waits(0, 29), NONE);
        due("waits(0, 30)", x.waits(0, 30), NONE);
        x.quit(0, 0);
        due("one has moved up", x.waits(0, 0), 2);
        due("waits(0, 27)", x.waits(0, 27), 29);
        due("waits(0, 28)", x.waits(0, 28), NONE);
        x.wish(0, 0);
        due("the first pupil of all waits, too", x.waits(0, 0), 0);
        due("before the others", x.waits(0, 1), 2);
    }

    private static void wouldHaveIt() {
        NightSchool x = reasons();
        due("course 0: pupil 3 alone", x.waits(0, 0), 3);
        due("course 0: not those who have enough, or what they wish more", x.waits(0, 1), NONE);
        due("course 1: it has places", x.waits(1, 0), NONE);
        due("course 2: pupil 3 alone", x.waits(2, 0), 3);
        due("course 2: no other", x.waits(2, 1), NONE);
        due("course 3: it is not held", x.waits(3, 0), NONE);
        NightSchool y = school(seats(9), courses(row(0, 0, 1, 1)), crowd(3, 0));
        due("before a term", y.waits(0, 0), NONE);
        y.open();
        due("in it", y.waits(0, 1), 2);
        y.close();
        due("behind it", y.waits(0, 0), NONE);
    }

    private static void waitsNone() {
        NightSchool x = school(seats(9), courses(row(0, 0, 1, 1)), crowd(3, 0));
        x.open();
        due("waits(0, 2)", x.waits(0, 2), NONE);
        due("waits(0, -1)", x.waits(0, -1), NONE);
        due("waits(1, 0)", x.waits(1, 0), NONE);
        due("waits(10, 0)", x.waits(10, 0), NONE);
        for (int n : FAR) {
            due("waits(" + n + ", 0)", x.waits(n, 0), NONE);
            due("waits(0, " + n + ")", x.waits(0, n), NONE);
        }
        due("a new object", new NightSchool().waits(0, 0), NONE);
    }

    private static void askAll(NightSchool x, int n) {
        x.tell(n, n % 10);
        x.person(n, n % 25);
        x.why(n, n);
        x.hours(n % 2, n);
        x.bill(n);
        x.line(n, n);
        x.count(n);
        x.waits(n, n);
        x.fault(n);
        x.canHold(n);
        x.points(n);
    }

    private static void askingChangesNothing() {
        for (int n : new int[] {-1, 0, 1, 2, 3, 7, MIN, MAX}) {
            ToLongFunction<NightSchool> asked = x -> {
                askAll(x, n);
                return 0;
            };
            changesNothing(TellEdgeTest::busy, "all questions of " + n + " in a term", asked, 0);
            changesNothing(TellEdgeTest::calm, "all questions of " + n + " without one", asked, 0);
            changesNothing(NightSchool::new, "all questions of " + n + " of a new object", asked, 0);
        }
    }

    public static void main(String[] args) {
        sentence(16, "Of a COURSE, what 0: EVENING .. 9: weeks that it was held", TellEdgeTest::tellEach);
        sentence(16, "NONE if there is none such", TellEdgeTest::tellNoCourse);
        sentence(16, "or for another what", TellEdgeTest::tellAnotherWhat);
        sentence(17, "Of a PUPIL, what 0: AGE .. 5: its POINTS now", TellEdgeTest::personEach);
        sentence(17, "6: times that it moved up in this TERM", TellEdgeTest::timesMoved);
        sentence(17, "10 .. 15: the COURSE of RANK what - 10 (NONE)", TellEdgeTest::coursesOfRanks);
        sentence(17, "20 .. 24: the COURSE that it has on EVENING what - 20 (NONE)", TellEdgeTest::coursesOfEvenings);
        sentence(17, "NONE if there is none such, or for another what", TellEdgeTest::personNone);
        sentence(18, "0 it has it", TellEdgeTest::whyHasIt);
        sentence(18, "1 it does not WISH it .. The first that holds", TellEdgeTest::whyNoWish);
        sentence(18, "2 the COURSE is not held .. The first that holds", TellEdgeTest::whyNotHeld);
        sentence(18, "3 it has one on that EVENING that it WISHES more .. The first that holds", TellEdgeTest::whyWishesMore);
        sentence(18, "4 it has as many as it WANTS (and none on that EVENING) .. The first that holds", TellEdgeTest::whyEnough);
        sentence(18, "5 there is no PLACE left", TellEdgeTest::whyNoPlace);
        sentence(18, "NONE if there is none such (of either)", TellEdgeTest::whyNone);
        sentence(19, "Hours in this TERM of a TEACHER (what 0), of a ROOM (1)", TellEdgeTest::hoursEach);
        sentence(19, "NONE if there is none such", TellEdgeTest::hoursNone);
        sentence(19, "or for another what", TellEdgeTest::hoursAnotherWhat);
        sentence(22, "How many: 0 ROOMS .. 8 times that somebody moved up in this TERM", TellEdgeTest::countEach);
        sentence(22, "ROOMS (at most 5 ..) COURSES (at most 10) PUPILS (at most 30)", TellEdgeTest::countFull);
        sentence(22, "NONE for another what", TellEdgeTest::countAnotherWhat);
        sentence(23, "The k-th PUPIL, from 0 on, by numbers", TellEdgeTest::kthThatWaits);
        sentence(23, "that WISHES a COURSE, has it not, and would have it now if a PLACE were left", TellEdgeTest::wouldHaveIt);
        sentence(23, "NONE if there is none such", TellEdgeTest::waitsNone);
        sentence(23, "a question changes nothing", TellEdgeTest::askingChangesNothing);
        finish();
    }
}
