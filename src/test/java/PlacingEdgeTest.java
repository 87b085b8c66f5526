/** Promises 10 to 12, and terms 1: the edges of what can be held, of placing, and of the best set. */
public final class PlacingEdgeTest extends Edge {
    private static final int[][] NOBODY = {};

    private static void holds(String name, NightSchool x, int set, boolean want) {
        due(name + ": canHold(" + set + ")", x.canHold(set), want);
        if (!want) {
            due(name + ": points(" + set + ")", x.points(set), NONE);
        }
    }

    private static void noTeacherTwice() {
        for (int teacher : new int[] {0, 5}) {
            for (int evening : new int[] {0, 4}) {
                NightSchool x = school(seats(9, 9, 9), courses(row(evening, teacher, 1, 1), row(evening, teacher, 1, 1),
                    row(4 - evening, teacher, 1, 1), row(evening, 5 - teacher, 1, 1)), NOBODY);
                holds("alone", x, 0b0001, true);
                holds("one teacher, one evening", x, 0b0011, false);
                holds("one teacher, two evenings", x, 0b0101, true);
                holds("two teachers, one evening", x, 0b1001, true);
                holds("one more of another evening", x, 0b1111, false);
                NightSchool y = school(seats(9, 9, 9), courses(row(evening, teacher, 1, 1), row(evening, 5 - teacher, 1, 1),
                    row(evening, teacher, 1, 1)), NOBODY);
                holds("another teacher between", y, 0b111, false);
            }
        }
    }

    private static NightSchool oneEvening(int rooms, int courses) {
        NightSchool x = new NightSchool();
        for (int i = 0; i < rooms; i++) {
            x.room(40);
        }
        for (int i = 0; i < courses; i++) {
            x.course(2, i, 1, 40, 0);
        }
        return x;
    }

    private static void enoughRooms() {
        for (int rooms = 0; rooms <= 5; rooms++) {
            for (int courses = 0; courses <= 6; courses++) {
                holds(rooms + " rooms", oneEvening(rooms, courses), (1 << courses) - 1, courses <= rooms);
            }
        }
        for (int rooms = 1; rooms <= 3; rooms++) {
            NightSchool x = new NightSchool();
            for (int i = 0; i < rooms; i++) {
                x.room(1);
            }
            for (int i = 0; i < 10; i++) {
                x.course(i / 2, i % 2, 1, 1, 0);
            }
            holds("two courses each evening, " + rooms + " rooms", x, 1023, rooms >= 2);
        }
    }

    private static void itsLeastOfPlaces() {
        for (int least : new int[] {2, 20, 39}) {
            for (int more = -1; more <= 1; more++) {
                NightSchool x = school(seats(least + more), courses(row(0, 0, least, least), row(1, 0, least, 40)), NOBODY);
                holds("seats " + (least + more) + " for at least " + least, x, 1, more >= 0);
                holds("seats " + (least + more) + " for at least " + least, x, 2, more >= 0);
            }
        }
        NightSchool x = school(seats(1, 40), courses(row(0, 0, 1, 1), row(0, 1, 40, 40)), NOBODY);
        holds("one seat for one, forty for forty", x, 3, true);
        NightSchool y = school(seats(9, 2), courses(row(0, 0, 1, 9), row(0, 1, 3, 5)), NOBODY);
        holds("the second one has too few", y, 3, false);
        holds("alone it has the greatest room", y, 2, true);
    }

    private static void greatestMostFirst() {
        holds("the greater one first", school(seats(5, 9), courses(row(0, 0, 6, 9), row(0, 1, 5, 5)), NOBODY), 3, true);
        holds("the greater one last", school(seats(5, 9), courses(row(0, 0, 5, 5), row(0, 1, 6, 9)), NOBODY), 3, true);
        holds("greater by one", school(seats(8, 9), courses(row(0, 0, 8, 8), row(0, 1, 9, 9)), NOBODY), 3, true);
        holds("it is not by least", school(seats(5, 9), courses(row(0, 0, 6, 7), row(0, 1, 1, 8)), NOBODY), 3, false);
        NightSchool x = school(seats(3, 5, 7), courses(row(0, 0, 1, 20), row(0, 1, 1, 30), row(0, 2, 1, 40)),
            row(1, 0), row(1, 1), row(1, 2));
        x.open();
        due("room of the greatest", x.tell(2, 6), 2);
        due("room of the next", x.tell(1, 6), 1);
        due("room of the least", x.tell(0, 6), 0);
    }

    private static void thenByNumbers() {
        holds("the first has the great room", school(seats(5, 9), courses(row(0, 0, 1, 9), row(0, 1, 6, 9)), NOBODY), 3, false);
        holds("the first has the great room", school(seats(5, 9), courses(row(0, 0, 6, 9), row(0, 1, 1, 9)), NOBODY), 3, true);
        NightSchool x = school(seats(3, 5, 7), courses(row(0, 0, 1, 9), row(0, 1, 1, 9), row(0, 2, 1, 9)),
            row(1, 0), row(1, 1), row(1, 2));
        x.open();
        for (int c = 0; c < 3; c++) {
            due("room of course " + c, x.tell(c, 6), 2 - c);
        }
    }

    private static void greatestSeatsFirst() {
        int[][] orders = {{4, 6, 8}, {4, 8, 6}, {6, 4, 8}, {6, 8, 4}, {8, 4, 6}, {8, 6, 4}};
        for (int[] order : orders) {
            NightSchool x = school(order, courses(row(0, 0, 1, 30), row(0, 1, 1, 20), row(0, 2, 1, 10)),
                row(1, 0), row(1, 1), row(1, 2));
            x.open();
            for (int c = 0; c < 3; c++) {
                due("places of course " + c, x.tell(c, 7), 8 - 2 * c);
                due("seats of its room", order[x.tell(c, 6)], 8 - 2 * c);
            }
        }
    }

    private static void roomsByNumbers() {
        NightSchool x = school(seats(7, 40, 7, 40, 7), courses(row(0, 0, 1, 6), row(0, 1, 1, 6), row(0, 2, 1, 6), row(0, 3, 1, 6),
            row(0, 4, 1, 6)), row(1, 0), row(1, 1), row(1, 2), row(1, 3), row(1, 4));
        due("open()", x.open(), 30);
        int[] want = {1, 3, 0, 2, 4};
        for (int c = 0; c < 5; c++) {
            due("room of course " + c, x.tell(c, 6), want[c]);
        }
        NightSchool y = school(seats(7, 7), courses(row(0, 0, 1, 6), row(1, 0, 1, 6)), row(2, 0, 1));
        y.open();
        due("each evening begins with the first room", y.tell(0, 6), 0);
        due("each evening begins with the first room", y.tell(1, 6), 0);
    }

    private static void mostOrSeats() {
        for (int seats = 1; seats <= 40; seats++) {
            NightSchool x = school(seats(seats), courses(row(0, 0, 1, 20)), row(1, 0));
            x.open();
            due("places with " + seats + " seats for at most 20", x.tell(0, 7), Math.min(20, seats));
        }
        for (int seats = 4; seats <= 6; seats++) {
            NightSchool x = school(seats(seats), courses(row(0, 0, 1, 5)), crowd(8, 0));
            due("points with " + seats + " seats for at most 5", x.points(1), 6 * Math.min(5, seats));
        }
    }

    private static void bitsWithoutCourse() {
        due("the empty set of a new object", new NightSchool().canHold(0), true);
        for (int courses = 0; courses <= 10; courses++) {
            NightSchool x = new NightSchool();
            x.room(40);
            for (int c = 0; c < courses; c++) {
                x.course(c % 5, c / 5, 1, 1, 0);
            }
            for (int bit = 0; bit < 32; bit++) {
                holds("bit " + bit + " of " + courses, x, 1 << bit, bit < courses);
            }
            holds("all bits", x, -1, false);
            holds("all but the sign", x, MAX, false);
            holds("a course and the sign", x, MIN | 1, false);
            due("the empty set", x.canHold(0), true);
        }
    }

    private static void inTermToo() {
        NightSchool x = school(seats(5), courses(row(0, 0, 1, 1), row(0, 1, 1, 1), row(1, 1, 2, 2)), row(2, 0, 1, 2), row(1, 1));
        x.open();
        for (int set = 0; set < 8; set++) {
            NightSchool before = school(seats(5), courses(row(0, 0, 1, 1), row(0, 1, 1, 1), row(1, 1, 2, 2)), row(2, 0, 1, 2), row(1, 1));
            due("canHold(" + set + ") in a term", x.canHold(set), before.canHold(set));
            due("points(" + set + ") in a term", x.points(set), before.points(set));
        }
        for (int set = 0; set < 8; set++) {
            int s = set;
            changesNothing(PlacingEdgeTest::busy, "canHold(" + set + ")", z -> bit(z.canHold(s)), bit(calm().canHold(s)));
            changesNothing(PlacingEdgeTest::busy, "points(" + set + ")", z -> z.points(s), busy().points(s));
        }
    }

    /** Five courses with room for all, on five evenings. */
    private static int[][] fiveEvenings() {
        return courses(row(0, 0, 1, 9), row(1, 0, 1, 9), row(2, 0, 1, 9), row(3, 0, 1, 9), row(4, 0, 1, 9));
    }

    private static void fewerThanItWants() {
        for (int wants = 1; wants <= 3; wants++) {
            NightSchool x = school(seats(9), fiveEvenings(), row(wants, 0, 1, 2, 3, 4));
            int[] all = {6, 11, 15};
            due("wants " + wants + ": open()", x.open(), all[wants - 1]);
            due("wants " + wants + ": its courses", x.person(0, 3), (1 << wants) - 1);
            for (int n = 1; n <= 5; n++) {
                due("wants " + wants + ": points of " + n, x.points((1 << n) - 1), n <= wants ? all[n - 1] : NONE);
            }
        }
    }

    private static void firstOfItsWishes() {
        NightSchool x = school(seats(9), fiveEvenings(), row(1, 4, 0), row(1, 0, 4));
        due("open()", x.open(), 12);
        due("pupil 0", x.person(0, 3), 16);
        due("pupil 1", x.person(1, 3), 1);
        NightSchool y = school(seats(9), fiveEvenings(), row(3, 4, 2, 0, 1, 3));
        y.open();
        due("the first three of five", y.person(0, 3), 0b10101);
        NightSchool z = school(seats(9), fiveEvenings(), row(1));
        due("without wishes", z.open(), 0);
        due("without wishes", z.person(0, 3), 0);
    }

    private static void inTheSet() {
        NightSchool x = school(seats(9), fiveEvenings(), row(1, 0, 1, 2, 3, 4));
        for (int c = 0; c < 5; c++) {
            due("points of course " + c + " alone", x.points(1 << c), 6 - c);
        }
    }

    private static void thatItHasNot() {
        NightSchool x = school(seats(9), courses(row(0, 0, 1, 9), row(1, 0, 2, 9)), row(3, 0, 1));
        due("one place of one course", x.points(1), 6);
        due("one pupil is not two", x.points(2), NONE);
        x.open();
        due("pupils", x.tell(0, 8), 1);
        due("places had", x.count(4), 1);
    }

    private static void placeLeft() {
        for (int most = 1; most <= 4; most++) {
            NightSchool x = school(seats(40), courses(row(0, 0, 1, most)), crowd(3, 0));
            due("open() with at most " + most, x.open(), 6 * Math.min(3, most));
            due("pupils", x.tell(0, 8), Math.min(3, most));
            for (int p = 0; p < 3; p++) {
                due("pupil " + p, x.person(p, 3), bit(p < most));
            }
        }
        NightSchool y = school(seats(40), courses(row(0, 0, 1, 1), row(1, 0, 1, 1)), row(1, 0), row(1, 0, 1), row(1, 0, 1));
        due("who finds no place gets the next wish", y.open(), 11);
        due("pupil 1", y.person(1, 3), 2);
        due("pupil 2", y.person(2, 3), 0);
        NightSchool z = school(seats(40), courses(row(0, 0, 30, 40)), crowd(30, 0));
        due("all thirty in one", z.open(), 180);
    }

    private static void noneOnThatEvening() {
        NightSchool x = school(seats(9, 9), courses(row(0, 0, 1, 9), row(0, 1, 1, 9), row(4, 0, 1, 9)), row(3, 0, 1, 2), row(1, 1));
        due("open()", x.open(), 6 + 4 + 6);
        due("pupil 0", x.person(0, 3), 0b101);
        due("both of one evening for one pupil", school(seats(9, 9), courses(row(4, 0, 1, 9), row(4, 1, 1, 9)), row(2, 0, 1)).points(3), NONE);
    }

    private static void firstRound() {
        NightSchool x = school(seats(9), courses(row(0, 0, 1, 1)), crowd(30, 0));
        x.open();
        due("pupil 0", x.person(0, 3), 1);
        for (int p = 1; p < 30; p++) {
            due("pupil " + p, x.person(p, 3), 0);
        }
        NightSchool y = school(seats(9), courses(row(0, 0, 1, 2), row(1, 0, 1, 1)), row(2, 0, 1), row(2, 1, 0));
        y.open();
        due("each gets one in a round", y.person(1, 3), 0b11);
        due("so pupil 0 has no more", y.person(0, 3), 0b01);
    }

    private static void secondRound() {
        NightSchool x = school(seats(9), courses(row(0, 0, 1, 9), row(1, 0, 1, 1)), row(2, 0, 1), row(2, 0, 1), row(2, 0, 1));
        due("open()", x.open(), 18 + 5);
        due("the last pupil is the first one", x.person(2, 3), 0b11);
        due("pupil 1", x.person(1, 3), 0b01);
        due("pupil 0", x.person(0, 3), 0b01);
    }

    private static void thirdRound() {
        NightSchool x = school(seats(9), courses(row(0, 0, 1, 9), row(1, 0, 1, 9), row(2, 0, 1, 1)),
            row(3, 0, 1, 2), row(3, 0, 1, 2), row(3, 0, 1, 2));
        due("open()", x.open(), 18 + 15 + 4);
        due("pupil 0 is the first one again", x.person(0, 3), 0b111);
        due("pupil 1", x.person(1, 3), 0b011);
        due("pupil 2", x.person(2, 3), 0b011);
    }

    private static void lawful() {
        for (int pupils = 0; pupils <= 4; pupils++) {
            NightSchool x = school(seats(9), courses(row(0, 0, 3, 9)), crowd(pupils, 0));
            due(pupils + " of at least 3", x.points(1), pupils >= 3 ? 6 * pupils : NONE);
            due("it can be held", x.canHold(1), true);
        }
        NightSchool y = school(seats(9), courses(row(0, 0, 1, 9), row(1, 0, 2, 9)), row(1, 0), row(1, 1));
        due("one of two has too few", y.points(3), NONE);
        due("the other one alone", y.points(1), 6);
        NightSchool z = school(seats(9), courses(row(0, 0, 30, 40)), crowd(30, 0));
        due("a room of nine is too small for thirty", z.points(1), NONE);
        NightSchool w = school(seats(40), courses(row(0, 0, 31, 40)), crowd(30, 0));
        due("thirty of at least 31", w.points(1), NONE);
        due("the empty set", w.points(0), 0);
        due("the empty set of a new object", new NightSchool().points(0), 0);
    }

    private static void sixLessTheRank() {
        NightSchool x = new NightSchool();
        x.room(40);
        for (int c = 0; c < 6; c++) {
            x.course(0, 0, 1, 40, 0);
        }
        x.pupil(0, 0, 1);
        for (int c = 0; c < 6; c++) {
            x.wish(0, c);
        }
        for (int c = 0; c < 6; c++) {
            due("a place of rank " + c, x.points(1 << c), 6 - c);
        }
        NightSchool y = new NightSchool();
        y.room(40);
        for (int c = 0; c < 3; c++) {
            y.course(c, 0, 30, 30, 0);
        }
        for (int p = 0; p < 30; p++) {
            y.pupil(0, 0, 3);
            for (int c = 0; c < 3; c++) {
                y.wish(p, c);
            }
        }
        due("the most that there can be", y.open(), 30 * (6 + 5 + 4));
        due("count(4)", y.count(4), 90);
        due("count(5)", y.count(5), 450);
    }

    private static void mostPoints() {
        NightSchool x = school(seats(10, 1), courses(row(0, 0, 1, 9), row(0, 1, 1, 10)),
            row(1, 0), row(1, 0), row(1, 0), row(1, 1));
        due("course 0 alone", x.points(1), 18);
        due("course 1 alone", x.points(2), 6);
        due("both: the great room is lost to course 1", x.points(3), 12);
        due("open()", x.open(), 18);
        due("course 0", x.tell(0, 5), 1);
        due("course 1", x.tell(1, 5), 0);
        NightSchool y = school(seats(9), courses(row(0, 0, 1, 9), row(0, 1, 1, 9)), row(1, 1, 0));
        due("the set 2 is better than the set 1", y.open(), 6);
        due("course 1 is held", y.tell(1, 5), 1);
        NightSchool z = new NightSchool();
        z.room(1);
        for (int c = 0; c < 10; c++) {
            z.course(c / 2, c % 2, 1, 1, 0);
        }
        z.pupil(0, 0, 1);
        z.wish(0, 9);
        due("the tenth course alone", z.open(), 6);
        due("the tenth course is held", z.tell(9, 5), 1);
    }

    private static void bestAsItIsNow() {
        NightSchool x = school(seats(9), courses(row(0, 0, 2, 9), row(1, 0, 1, 9)), row(2, 0, 1), row(1));
        due("course 1 alone", x.open(), 5);
        due("held", x.tell(0, 5), 0);
        x.close();
        x.wish(1, 0);
        due("both, since a wish came", x.open(), 6 + 5 + 6);
        due("held", x.tell(0, 5), 1);
        x.quit(1, 0);
        x.close();
        due("course 1 alone, since a wish is no more", x.open(), 5);
        due("held", x.tell(0, 5), 0);
    }

    private static void leastBits() {
        NightSchool x = school(seats(9), courses(row(0, 0, 1, 9), row(0, 0, 1, 9), row(0, 0, 1, 9)), row(1, 2), row(1, 1), row(1, 0));
        due("open()", x.open(), 6);
        for (int c = 0; c < 3; c++) {
            due("held " + c, x.tell(c, 5), bit(c == 0));
        }
        NightSchool y = school(seats(9), courses(row(0, 0, 1, 9), row(1, 0, 1, 9), row(0, 0, 1, 9)), row(1, 2, 1), row(1, 0, 2));
        due("{0, 1}", y.points(3), 11);
        due("{2}", y.points(4), 11);
        due("open()", y.open(), 11);
        due("the set 3 is less than the set 4", y.count(3), 2);
    }

    private static void emptySetIsLawful() {
        NightSchool x = school(seats(9), courses(row(0, 0, 2, 9)), row(1, 0));
        due("open() without a lawful course", x.open(), 0);
        due("held", x.count(3), 0);
        due("week", x.count(6), 0);
        due("weeks(1)", x.weeks(1), 1);
        due("without rooms", school(seats(), courses(row(0, 0, 1, 9)), row(1, 0)).open(), 0);
        due("without courses", school(seats(9), courses(), row(1)).open(), 0);
        due("without pupils", school(seats(9), courses(row(0, 0, 1, 9)), NOBODY).open(), 0);
        due("without wishes", school(seats(9), courses(row(0, 0, 1, 9)), row(1), row(3)).open(), 0);
    }

    private static void opened() {
        NightSchool x = school(seats(9, 3), courses(row(0, 0, 1, 2), row(0, 1, 1, 5)), row(1, 0), row(1, 1), row(1, 0));
        due("open()", x.open(), 18);
        due("week", x.count(6), 0);
        due("room of course 0", x.tell(0, 6), 1);
        due("room of course 1", x.tell(1, 6), 0);
        due("places of course 0", x.tell(0, 7), 2);
        due("places of course 1", x.tell(1, 7), 5);
        due("pupils of course 0", x.tell(0, 8), 2);
        due("pupils of course 1", x.tell(1, 8), 1);
        due("nobody moved up", x.count(8), 0);
        due("no weeks yet", x.tell(0, 9), 0);
        due("no hours yet", x.hours(0, 0), 0);
    }

    private static void thereIsOne() {
        changesNothing(PlacingEdgeTest::busy, "open() in a term", NightSchool::open, NONE);
        NightSchool x = new NightSchool();
        x.open();
        due("open() in an empty term", x.open(), NONE);
        x.close();
        due("open() behind it", x.open(), 0);
    }

    public static void main(String[] args) {
        sentence(10, "on each EVENING no TEACHER has two of them", PlacingEdgeTest::noTeacherTwice);
        sentence(10, "there are as many ROOMS as COURSES at least", PlacingEdgeTest::enoughRooms);
        sentence(10, "each has its LEAST of PLACES", PlacingEdgeTest::itsLeastOfPlaces);
        sentence(10, "the COURSES .. by MOST, the greatest first", PlacingEdgeTest::greatestMostFirst);
        sentence(10, "the COURSES .. then by numbers", PlacingEdgeTest::thenByNumbers);
        sentence(10, "the ROOMS, by seats, the greatest first", PlacingEdgeTest::greatestSeatsFirst);
        sentence(10, "the ROOMS .. then by numbers", PlacingEdgeTest::roomsByNumbers);
        sentence(10, "PLACES are MOST, or the seats, if these are fewer", PlacingEdgeTest::mostOrSeats);
        sentence(10, "bits without a COURSE: false", PlacingEdgeTest::bitsWithoutCourse);
        sentence(10, "Whether a set of COURSES CAN BE HELD, in a TERM, too", PlacingEdgeTest::inTermToo);
        sentence(11, "each that has fewer COURSES than it WANTS", PlacingEdgeTest::fewerThanItWants);
        sentence(11, "gets the first of its WISHES", PlacingEdgeTest::firstOfItsWishes);
        sentence(11, "that is in the set", PlacingEdgeTest::inTheSet);
        sentence(11, "that it has not", PlacingEdgeTest::thatItHasNot);
        sentence(11, "that has a PLACE left", PlacingEdgeTest::placeLeft);
        sentence(11, "on whose EVENING it has none", PlacingEdgeTest::noneOnThatEvening);
        sentence(11, "three rounds, the first one by PUPILS from 0 on", PlacingEdgeTest::firstRound);
        sentence(11, "the second one from the last PUPIL down", PlacingEdgeTest::secondRound);
        sentence(11, "the third one as the first", PlacingEdgeTest::thirdRound);
        sentence(11, "LAWFUL if each of its COURSES has its LEAST then .. NONE: .. not LAWFUL", PlacingEdgeTest::lawful);
        sentence(11, "POINTS: of each PLACE that was got 6 less the RANK", PlacingEdgeTest::sixLessTheRank);
        sentence(12, "BEST: the LAWFUL set of most POINTS", PlacingEdgeTest::mostPoints);
        sentence(12, "BEST, by the WISHES that there are now", PlacingEdgeTest::bestAsItIsNow);
        sentence(12, "of several that with the least bits", PlacingEdgeTest::leastBits);
        sentence(12, "the empty one is LAWFUL, with none", PlacingEdgeTest::emptySetIsLawful);
        sentence(12, "A TERM is opened with BEST, its ROOMS and PLACING; week 0", PlacingEdgeTest::opened);
        sentence(12, "NONE: there is one", PlacingEdgeTest::thereIsOne);
        finish();
    }
}
