import java.util.function.ToLongFunction;

/** Promises 6 to 9: the edges of rooms, courses, pupils and wishes. */
public final class AnnounceEdgeTest extends Edge {

    private static void refused(String call, ToLongFunction<NightSchool> asked) {
        changesNothing(AnnounceEdgeTest::calm, call, asked, NONE);
    }

    /** A school with room for one more of everything, so that the term alone can be why it is refused. */
    private static NightSchool inTerm() {
        NightSchool x = calm();
        x.open();
        return x;
    }

    private static void roomNumbers() {
        NightSchool x = new NightSchool();
        due("room(0)", x.room(0), NONE);
        due("room(1)", x.room(1), 0);
        due("room(41)", x.room(41), NONE);
        due("room(40)", x.room(40), 1);
        for (int i = 2; i < 5; i++) {
            due("room(7)", x.room(7), i);
        }
    }

    private static void roomInTerm() {
        changesNothing(AnnounceEdgeTest::inTerm, "room(5) in a term", x -> x.room(5), NONE);
        NightSchool x = new NightSchool();
        x.open();
        due("room(5) in an empty term", x.room(5), NONE);
        x.weeks(1);
        due("room(5) in week 1", x.room(5), NONE);
        x.close();
        due("room(5) behind the term", x.room(5), 0);
    }

    private static void sixthRoom() {
        NightSchool x = new NightSchool();
        for (int i = 0; i < 5; i++) {
            due("room(1)", x.room(1), i);
        }
        due("a sixth room", x.room(40), NONE);
        due("count(0)", x.count(0), 5);
        due("hours(1, 5)", x.hours(1, 5), NONE);
        x.course(0, 0, 2, 2, 0);
        due("no room has 40 seats", x.canHold(1), false);
    }

    private static void otherSeats() {
        for (int seats : new int[] {0, 41, -1, -40, 400, 256 + 1, MIN, MAX}) {
            refused("room(" + seats + ")", x -> x.room(seats));
        }
        due("room(1)", calm().room(1), 2);
        due("room(40)", calm().room(40), 2);
    }

    private static void seatsAreSeats() {
        for (int seats : new int[] {1, 2, 39, 40}) {
            NightSchool x = new NightSchool();
            x.room(seats);
            x.course(0, 0, seats, seats, 0);
            x.course(1, 0, Math.min(40, seats + 1), 40, 0);
            due("a course for " + seats, x.canHold(1), true);
            due("a course for one more", x.canHold(2), seats == 40);
        }
    }

    private static void courseNumbers() {
        NightSchool x = new NightSchool();
        for (int i = 0; i < 10; i++) {
            due("a course of another evening 5", x.course(5, 0, 1, 1, 0), NONE);
            due("course", x.course(i % 5, i % 6, 1 + i, 2 * i + 1, 100 * i), i);
        }
        for (int i = 0; i < 10; i++) {
            int[] want = {i % 5, i % 6, 1 + i, 2 * i + 1, 100 * i};
            for (int what = 0; what < 5; what++) {
                due("tell(" + i + ", " + what + ")", x.tell(i, what), want[what]);
            }
        }
    }

    private static void courseInTerm() {
        changesNothing(AnnounceEdgeTest::inTerm, "course in a term", x -> x.course(0, 0, 1, 1, 0), NONE);
        NightSchool x = new NightSchool();
        x.open();
        due("course in an empty term", x.course(0, 0, 1, 1, 0), NONE);
        x.close();
        due("course behind the term", x.course(0, 0, 1, 1, 0), 0);
    }

    private static void eleventhCourse() {
        NightSchool x = new NightSchool();
        for (int i = 0; i < 10; i++) {
            due("course", x.course(0, 0, 1, 1, 0), i);
        }
        due("an eleventh course", x.course(0, 0, 1, 1, 0), NONE);
        due("count(1)", x.count(1), 10);
        due("tell(10, 0)", x.tell(10, 0), NONE);
    }

    private static void course(int evening, int teacher, int least, int most, int price, boolean good) {
        String call = "course(" + evening + ", " + teacher + ", " + least + ", " + most + ", " + price + ")";
        if (good) {
            NightSchool x = calm();
            due(call, x.course(evening, teacher, least, most, price), 3);
            int[] want = {evening, teacher, least, most, price, 0, NONE, 0, 0, 0};
            for (int what = 0; what < want.length; what++) {
                due(call + ", then tell(3, " + what + ")", x.tell(3, what), want[what]);
            }
        } else {
            refused(call, x -> x.course(evening, teacher, least, most, price));
        }
    }

    private static void evenings() {
        for (int evening = 0; evening <= 4; evening++) {
            course(evening, 0, 1, 1, 0, true);
        }
        for (int evening : new int[] {-1, 5, 6, 256, MIN, MAX}) {
            course(evening, 0, 1, 1, 0, false);
        }
    }

    private static void teachers() {
        for (int teacher = 0; teacher <= 5; teacher++) {
            course(0, teacher, 1, 1, 0, true);
        }
        for (int teacher : new int[] {-1, 6, 7, 256, MIN, MAX}) {
            course(0, teacher, 1, 1, 0, false);
        }
    }

    private static void leastAndMost() {
        course(0, 0, 1, 1, 0, true);
        course(0, 0, 1, 40, 0, true);
        course(0, 0, 40, 40, 0, true);
        course(0, 0, 0, 1, 0, false);
        course(0, 0, 0, 0, 0, false);
        course(0, 0, -1, 1, 0, false);
        course(0, 0, -1, -1, 0, false);
        course(0, 0, 1, 0, 0, false);
        course(0, 0, 1, 41, 0, false);
        course(0, 0, 41, 41, 0, false);
        course(0, 0, 41, 40, 0, false);
        course(0, 0, MIN, 1, 0, false);
        course(0, 0, 1, MAX, 0, false);
        course(0, 0, MAX, MIN, 0, false);
    }

    private static void firstNotAboveSecond() {
        course(0, 0, 20, 21, 0, true);
        course(0, 0, 20, 20, 0, true);
        course(0, 0, 20, 19, 0, false);
        course(0, 0, 2, 1, 0, false);
        course(0, 0, 40, 39, 0, false);
        course(0, 0, 40, 1, 0, false);
    }

    private static void prices() {
        course(0, 0, 1, 1, 0, true);
        course(0, 0, 1, 1, 1, true);
        course(0, 0, 1, 1, 1000, true);
        course(0, 0, 1, 1, -1, false);
        course(0, 0, 1, 1, 1001, false);
        course(0, 0, 1, 1, MIN, false);
        course(0, 0, 1, 1, MAX, false);
    }

    private static void pupilNumbers() {
        NightSchool x = new NightSchool();
        for (int i = 0; i < 30; i++) {
            due("a pupil of another purse", x.pupil(0, 3, 1), NONE);
            due("pupil", x.pupil(4 * i, i % 3, 1 + i % 3), i);
        }
        for (int i = 0; i < 30; i++) {
            due("person(" + i + ", 0)", x.person(i, 0), 4 * i);
            due("person(" + i + ", 1)", x.person(i, 1), i % 3);
            due("person(" + i + ", 2)", x.person(i, 2), 1 + i % 3);
            due("person(" + i + ", 4)", x.person(i, 4), 0);
        }
    }

    private static void pupilInTerm() {
        changesNothing(AnnounceEdgeTest::inTerm, "pupil in a term", x -> x.pupil(0, 0, 1), NONE);
        NightSchool x = new NightSchool();
        x.open();
        due("pupil in an empty term", x.pupil(0, 0, 1), NONE);
        x.close();
        due("pupil behind the term", x.pupil(0, 0, 1), 0);
    }

    private static void pupil31() {
        NightSchool x = new NightSchool();
        for (int i = 0; i < 30; i++) {
            due("pupil", x.pupil(0, 0, 1), i);
        }
        due("a 31st pupil", x.pupil(0, 0, 1), NONE);
        due("count(2)", x.count(2), 30);
        due("person(30, 0)", x.person(30, 0), NONE);
    }

    private static void pupil(int age, int purse, int wants, boolean good) {
        String call = "pupil(" + age + ", " + purse + ", " + wants + ")";
        if (good) {
            NightSchool x = calm();
            due(call, x.pupil(age, purse, wants), 4);
            int[] want = {age, purse, wants, 0, 0, 0, 0};
            for (int what = 0; what < want.length; what++) {
                due(call + ", then person(4, " + what + ")", x.person(4, what), want[what]);
            }
        } else {
            refused(call, x -> x.pupil(age, purse, wants));
        }
    }

    private static void ages() {
        for (int age : new int[] {0, 1, 119, 120}) {
            pupil(age, 0, 1, true);
        }
        for (int age : new int[] {-1, 121, 256, MIN, MAX}) {
            pupil(age, 0, 1, false);
        }
    }

    private static void purses() {
        for (int purse = 0; purse <= 2; purse++) {
            pupil(0, purse, 1, true);
        }
        for (int purse : new int[] {-1, 3, 256, MIN, MAX}) {
            pupil(0, purse, 1, false);
        }
    }

    private static void wants() {
        for (int wants = 1; wants <= 3; wants++) {
            pupil(0, 0, wants, true);
        }
        for (int wants : new int[] {0, -1, 4, 257, MIN, MAX}) {
            pupil(0, 0, wants, false);
        }
    }

    /** Ten courses, one pupil who wants three, and no room. */
    private static NightSchool wisher() {
        NightSchool x = new NightSchool();
        for (int i = 0; i < 10; i++) {
            x.course(i % 5, i % 6, 1, 1, 0);
        }
        x.pupil(0, 0, 3);
        return x;
    }

    private static void ranks() {
        NightSchool x = wisher();
        int[] order = {9, 0, 5, 1, 8, 3};
        for (int rank = 0; rank < 6; rank++) {
            due("the rank of the next wish is free", x.person(0, 10 + rank), NONE);
            due("wish(0, " + order[rank] + ")", x.wish(0, order[rank]), rank);
            due("wishes", x.person(0, 4), rank + 1);
        }
        for (int rank = 0; rank < 6; rank++) {
            due("the course of rank " + rank, x.person(0, 10 + rank), order[rank]);
        }
    }

    private static void noSuchPupil() {
        for (int pupil : new int[] {4, 5, 29, 30}) {
            refused("wish(" + pupil + ", 0)", x -> x.wish(pupil, 0));
        }
        for (int pupil : FAR) {
            refused("wish(" + pupil + ", 0)", x -> x.wish(pupil, 0));
        }
        due("the last pupil", calm().wish(3, 2), 1);
    }

    private static void noSuchCourse() {
        for (int course : new int[] {3, 4, 9, 10, 32}) {
            refused("wish(0, " + course + ")", x -> x.wish(0, course));
        }
        for (int course : FAR) {
            refused("wish(0, " + course + ")", x -> x.wish(0, course));
        }
        due("the last course", calm().wish(0, 2), 1);
        NightSchool y = new NightSchool();
        y.pupil(0, 0, 1);
        due("without courses", y.wish(0, 0), NONE);
    }

    private static void hasSix() {
        NightSchool x = wisher();
        for (int c = 0; c < 6; c++) {
            due("wish(0, " + c + ")", x.wish(0, c), c);
        }
        for (int c = 6; c < 10; c++) {
            due("a seventh", x.wish(0, c), NONE);
            due("why", x.why(0, c), 1);
        }
        due("wishes", x.person(0, 4), 6);
        due("the last one", x.person(0, 15), 5);
        x.pupil(0, 0, 1);
        due("the next pupil has none", x.person(1, 4), 0);
        due("the next pupil's first", x.wish(1, 9), 0);
        due("the last one of the first pupil", x.person(0, 15), 5);
        x.room(5);
        x.open();
        due("one is given up", x.quit(0, 2), true);
        due("then another may come", x.wish(0, 9), 5);
        due("but no more", x.wish(0, 8), NONE);
    }

    private static void hasThisOne() {
        for (int pupil = 0; pupil < 4; pupil++) {
            int p = pupil;
            int first = calm().person(p, 10);
            refused("the first wish again", x -> x.wish(p, first));
        }
        refused("the last wish again", x -> x.wish(1, 2));
        changesNothing(AnnounceEdgeTest::busy, "a wish again that it has", x -> x.wish(1, 0), NONE);
        changesNothing(AnnounceEdgeTest::busy, "a wish again that it has not", x -> x.wish(3, 0), NONE);
        NightSchool y = busy();
        due("one that was given up", y.wish(0, 0), 0);
        due("and again", y.wish(0, 0), NONE);
    }

    private static void wishesMay() {
        NightSchool x = busy();
        due("a wish in a term", x.wish(0, 2), 0);
        due("it has it at once", x.person(0, 3), 4);
        x.close();
        due("a wish behind the term", x.wish(0, 1), 1);
        due("it has it not", x.person(0, 3), 0);
    }

    public static void main(String[] args) {
        sentence(6, "A ROOM: its number", AnnounceEdgeTest::roomNumbers);
        sentence(6, "NONE: there is a TERM", AnnounceEdgeTest::roomInTerm);
        sentence(6, "NONE: .. there are 5", AnnounceEdgeTest::sixthRoom);
        sentence(6, "NONE: .. or other seats", AnnounceEdgeTest::otherSeats);
        sentence(6, "ROOMS .. have 1 .. 40 seats", AnnounceEdgeTest::seatsAreSeats);
        sentence(7, "A COURSE: its number", AnnounceEdgeTest::courseNumbers);
        sentence(7, "NONE: there is a TERM", AnnounceEdgeTest::courseInTerm);
        sentence(7, "NONE: .. there are 10", AnnounceEdgeTest::eleventhCourse);
        sentence(7, "or other numbers: an EVENING, 0 .. 4", AnnounceEdgeTest::evenings);
        sentence(7, "or other numbers: a TEACHER, 0 .. 5", AnnounceEdgeTest::teachers);
        sentence(7, "or other numbers: at LEAST and at MOST so many pupils (1 .. 40", AnnounceEdgeTest::leastAndMost);
        sentence(7, "or other numbers: the first not above the second", AnnounceEdgeTest::firstNotAboveSecond);
        sentence(7, "or other numbers: a PRICE, 0 .. 1000", AnnounceEdgeTest::prices);
        sentence(8, "A PUPIL: its number", AnnounceEdgeTest::pupilNumbers);
        sentence(8, "NONE: there is a TERM", AnnounceEdgeTest::pupilInTerm);
        sentence(8, "NONE: .. there are 30", AnnounceEdgeTest::pupil31);
        sentence(8, "or other numbers: an AGE, 0 .. 120", AnnounceEdgeTest::ages);
        sentence(8, "or other numbers: a PURSE, 0 .. 2", AnnounceEdgeTest::purses);
        sentence(8, "or other numbers: WANT 1 .. 3 COURSES", AnnounceEdgeTest::wants);
        sentence(9, "A WISH comes behind those of a PUPIL: its RANK", AnnounceEdgeTest::ranks);
        sentence(9, "NONE: there is no such PUPIL", AnnounceEdgeTest::noSuchPupil);
        sentence(9, "NONE: there is no such .. COURSE", AnnounceEdgeTest::noSuchCourse);
        sentence(9, "NONE: .. it has 6", AnnounceEdgeTest::hasSix);
        sentence(9, "NONE: .. or has this one", AnnounceEdgeTest::hasThisOne);
        sentence(9, "ROOMS, COURSES and PUPILS come no more then; WISHES may", AnnounceEdgeTest::wishesMay);
        finish();
    }
}
