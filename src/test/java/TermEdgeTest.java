/** Promises 13 to 15, and terms 2: the edges of a term, its weeks, and moving up. */
public final class TermEdgeTest extends Edge {
    private static void termIsOver() {
        NightSchool x = busy();
        x.close();
        due("week", x.count(6), NONE);
        due("held", x.count(3), 0);
        for (int c = 0; c < 3; c++) {
            int[] want = {0, NONE, 0, 0, 0};
            for (int i = 0; i < want.length; i++) {
                due("tell(" + c + ", " + (5 + i) + ")", x.tell(c, 5 + i), want[i]);
            }
        }
        due("moves in all", x.count(8), 0);
        for (int p = 0; p < 4; p++) {
            due("moves of pupil " + p, x.person(p, 6), 0);
            due("why", x.why(p, 0), p == 0 || p == 2 ? 1 : 2);
        }
        due("weeks(1)", x.weeks(1), NONE);
        due("room(5)", x.room(5), 2);
        due("course", x.course(4, 5, 1, 1, 0), 3);
        due("pupil", x.pupil(5, 0, 1), 4);
        due("open()", x.open() >= 0, true);
    }

    private static void theseStay() {
        NightSchool x = busy();
        x.close();
        due("rooms", x.count(0), 2);
        due("courses", x.count(1), 3);
        due("pupils", x.count(2), 4);
        due("lines", x.count(7), 2);
        int[][] course = {{0, 0, 1, 1, 10}, {0, 1, 1, 1, 10}, {1, 0, 2, 5, 10}};
        for (int c = 0; c < 3; c++) {
            for (int what = 0; what < 5; what++) {
                due("tell(" + c + ", " + what + ")", x.tell(c, what), course[c][what]);
            }
        }
        // Pupil 0 has given up the one wish that it had.
        int[][] wishes = {{}, {0, 1, 2}, {1, 2}, {0}};
        for (int p = 0; p < 4; p++) {
            due("wishes of pupil " + p, x.person(p, 4), wishes[p].length);
            for (int rank = 0; rank < 6; rank++) {
                due("rank " + rank + " of pupil " + p, x.person(p, 10 + rank), rank < wishes[p].length ? wishes[p][rank] : NONE);
            }
        }
    }

    private static void noPupilHasOne() {
        NightSchool x = busy();
        due("places before", x.count(4), 4);
        x.close();
        due("places", x.count(4), 0);
        due("points", x.count(5), 0);
        for (int p = 0; p < 4; p++) {
            due("courses of pupil " + p, x.person(p, 3), 0);
            due("points of pupil " + p, x.person(p, 5), 0);
            for (int evening = 0; evening < 5; evening++) {
                due("evening " + evening + " of pupil " + p, x.person(p, 20 + evening), NONE);
            }
        }
    }

    private static void hoursBeginAnew() {
        NightSchool x = school(seats(9), courses(row(0, 3, 1, 9)), row(1, 0));
        x.open();
        x.weeks(7);
        due("teacher", x.hours(0, 3), 14);
        due("room", x.hours(1, 0), 14);
        x.close();
        due("teacher behind the term", x.hours(0, 3), 0);
        due("room behind the term", x.hours(1, 0), 0);
        due("weeks held", x.tell(0, 9), 0);
        x.open();
        due("week of the next term", x.count(6), 0);
        due("teacher in the next term", x.hours(0, 3), 0);
        x.weeks(1);
        due("teacher in week 1", x.hours(0, 3), 2);
        due("room in week 1", x.hours(1, 0), 2);
        due("weeks held in week 1", x.tell(0, 9), 1);
    }

    private static void weeksItHad() {
        NightSchool x = new NightSchool();
        x.open();
        due("close() at once", x.close(), 0);
        x.open();
        x.weeks(1);
        due("close() behind one", x.close(), 1);
        x.open();
        x.weeks(20);
        x.weeks(20);
        x.weeks(1);
        due("close() behind 41", x.close(), 41);
        NightSchool y = new NightSchool();
        y.open();
        for (int i = 1; i <= 500; i++) {
            y.weeks(20);
        }
        due("close() behind 10000", y.close(), 10000);
    }

    private static void thereIsNone() {
        changesNothing(TermEdgeTest::calm, "close() before a term", NightSchool::close, NONE);
        changesNothing(() -> {
            NightSchool x = busy();
            x.close();
            return x;
        }, "close() behind a term", NightSchool::close, NONE);
    }

    private static void oneToTwenty() {
        int week = 0;
        NightSchool x = new NightSchool();
        x.open();
        for (int n = 1; n <= 20; n++) {
            week += n;
            due("weeks(" + n + ")", x.weeks(n), week);
            due("count(6)", x.count(6), week);
        }
    }

    private static void anotherNumber() {
        for (int n : new int[] {0, -1, -20, 21, 22, 256 + 1, MIN, MAX}) {
            changesNothing(TermEdgeTest::busy, "weeks(" + n + ")", x -> x.weeks(n), NONE);
        }
    }

    private static void weeksWithoutTerm() {
        changesNothing(TermEdgeTest::calm, "weeks(1)", x -> x.weeks(1), NONE);
        changesNothing(TermEdgeTest::calm, "weeks(20)", x -> x.weeks(20), NONE);
        NightSchool x = busy();
        x.close();
        due("weeks(1) behind a term", x.weeks(1), NONE);
    }

    private static void twoHours() {
        NightSchool x = school(seats(5, 9), courses(row(0, 5, 1, 9), row(4, 5, 1, 3), row(4, 2, 1, 4), row(3, 1, 9, 9)),
            row(2, 0, 1), row(2, 2), row(1, 3));
        due("open()", x.open(), 6 + 6 + 5);
        for (int week = 1; week <= 3; week++) {
            x.weeks(1);
            due("a teacher of two evenings", x.hours(0, 5), 4 * week);
            due("a teacher of one", x.hours(0, 2), 2 * week);
            due("one whose course is not held", x.hours(0, 1), 0);
            due("the great room, of two evenings", x.hours(1, 1), 4 * week);
            due("the small room", x.hours(1, 0), 2 * week);
            due("weeks held", x.tell(0, 9), week);
            due("weeks of what is not held", x.tell(3, 9), 0);
        }
        NightSchool y = school(seats(9), courses(row(0, 0, 1, 9)), row(1, 0));
        y.open();
        y.weeks(20);
        due("twenty weeks", y.hours(0, 0), 40);
        due("twenty weeks", y.hours(1, 0), 40);
        due("twenty weeks", y.tell(0, 9), 20);
    }

    /** A term with a course for at least so many, of whom so many are left in it. */
    private static NightSchool left(int least, int pupils) {
        NightSchool x = school(seats(40), courses(row(0, 0, least, 40)), crowd(least, 0));
        x.open();
        for (int p = pupils; p < least; p++) {
            x.quit(p, 0);
        }
        return x;
    }

    private static void fewerThanHalf() {
        for (int least : new int[] {1, 2, 3, 4, 5, 29, 30}) {
            for (int pupils = 0; pupils <= least; pupils++) {
                NightSchool x = left(least, pupils);
                String name = pupils + " of at least " + least;
                due(name + ": pupils", x.tell(0, 8), pupils);
                due(name + ": held before the week", x.tell(0, 5), 1);
                x.weeks(1);
                boolean stands = 2 * pupils >= least;
                due(name + ": held", x.tell(0, 5), bit(stands));
                due(name + ": pupils", x.tell(0, 8), stands ? pupils : 0);
                due(name + ": places had", x.count(4), stands ? pupils : 0);
            }
        }
    }

    private static void heldNoMore() {
        NightSchool x = left(3, 1);
        due("weeks(5)", x.weeks(5), 5);
        due("held", x.tell(0, 5), 0);
        due("held in all", x.count(3), 0);
        due("room", x.tell(0, 6), NONE);
        due("places", x.tell(0, 7), 0);
        due("pupils", x.tell(0, 8), 0);
        due("it was held in the week in which it fell", x.tell(0, 9), 1);
        due("hours of the teacher", x.hours(0, 0), 2);
        due("hours of the room", x.hours(1, 0), 2);
        due("its pupil has left it", x.person(0, 3), 0);
        due("and wishes it still", x.person(0, 4), 1);
        due("why", x.why(0, 0), 2);
        due("points", x.person(0, 5), 0);
        due("quit what fell", x.quit(0, 0), false);
        due("a wish for what fell", x.wish(1, 0), 0);
        due("does not bring it back", x.person(1, 3), 0);
        due("who waits", x.waits(0, 0), NONE);
        x.weeks(1);
        due("hours of the teacher", x.hours(0, 0), 2);
        x.close();
        due("a next term can't hold it with two", x.open(), 0);
    }

    private static void fallsBeforeAllMove() {
        NightSchool x = school(seats(9), courses(row(0, 0, 4, 9), row(1, 0, 4, 9)),
            row(1, 0), row(1, 0), row(1, 0), row(1, 0, 1), row(1, 1), row(1, 1), row(1, 1), row(1, 1, 0));
        due("open()", x.open(), 48);
        for (int p = 0; p < 3; p++) {
            x.quit(p, 0);
            x.quit(4 + p, 1);
        }
        due("pupils of course 0", x.tell(0, 8), 1);
        due("pupils of course 1", x.tell(1, 8), 1);
        x.weeks(1);
        due("course 0 falls", x.tell(0, 5), 0);
        due("course 1 falls, too: nobody had moved to it yet", x.tell(1, 5), 0);
        due("nobody moved", x.count(8), 0);
    }

    private static void thenAllMoveUp() {
        NightSchool x = school(seats(9), courses(row(0, 0, 4, 9), row(1, 0, 1, 2), row(2, 0, 1, 9)),
            row(1, 0, 1, 2), row(1, 0, 1, 2), row(1, 0), row(1, 0), row(1, 1), row(1, 2));
        due("open()", x.open(), 36);
        x.quit(2, 0);
        x.quit(3, 0);
        x.quit(0, 0);
        due("who gives one up gets its next wish", x.person(0, 3), 0b010);
        due("moves", x.count(8), 1);
        x.weeks(1);
        due("course 0 falls", x.tell(0, 5), 0);
        due("course 1 is full, so its pupil gets the third wish", x.person(1, 3), 0b100);
        due("moves", x.count(8), 2);
        due("moves of pupil 1", x.person(1, 6), 1);
        NightSchool y = school(seats(9), courses(row(0, 0, 4, 9), row(1, 0, 1, 9), row(2, 0, 1, 9)),
            row(1, 0, 2, 1), row(1, 0), row(1, 0), row(1, 0), row(1, 1), row(1, 2));
        y.open();
        for (int p = 1; p < 4; p++) {
            y.quit(p, 0);
        }
        y.weeks(1);
        due("of two that have a place the first wish", y.person(0, 3), 0b100);
        due("moves", y.person(0, 6), 1);
    }

    /** On one evening so many courses of one place; pupil i has course i and would rather have course i - 1. */
    private static NightSchool chain(int courses) {
        NightSchool x = new NightSchool();
        for (int c = 0; c < courses; c++) {
            x.room(9);
            x.course(0, c, 1, 1, 0);
            x.pupil(9, 0, 1);
        }
        x.wish(0, 0);
        for (int p = 1; p < courses; p++) {
            x.wish(p, p - 1);
            x.wish(p, p);
        }
        x.open();
        return x;
    }

    private static void asLongAsOneCan() {
        for (int courses = 2; courses <= 5; courses++) {
            NightSchool x = chain(courses);
            due("all are held", x.count(3), courses);
            x.quit(0, 0);
            due("moves", x.count(8), courses - 1);
            for (int p = 1; p < courses; p++) {
                due("pupil " + p, x.person(p, 3), 1 << (p - 1));
                due("moves of pupil " + p, x.person(p, 6), 1);
            }
            due("the last place is free", x.tell(courses - 1, 8), 0);
        }
    }

    private static void earlierPupilsToo() {
        // Who gives a course up makes way for a pupil before it by numbers, and gets its own next wish.
        NightSchool x = school(seats(9, 9, 9), courses(row(0, 0, 1, 1), row(0, 1, 1, 1), row(0, 2, 1, 1)),
            row(1, 2), row(1, 1), row(1, 0));
        due("open()", x.open(), 18);
        due("quit", x.quit(0, 2), true);
        due("course 2 is free", x.tell(2, 8), 0);
        x.wish(0, 1);
        x.wish(1, 0);
        due("pupil 0 waits for course 1", x.why(0, 1), 5);
        due("pupil 1 has what it wishes more", x.why(1, 0), 3);
        due("quit", x.quit(2, 0), true);
        due("pupil 1 stays", x.person(1, 3), 0b010);
        due("quit", x.quit(1, 1), true);
        due("pupil 0 has course 1", x.person(0, 3), 0b010);
        due("pupil 1 has course 0", x.person(1, 3), 0b001);
        NightSchool y = school(seats(9, 9), courses(row(0, 0, 1, 1), row(0, 1, 1, 1)), row(1, 0), row(1, 1), row(1, 0, 1), row(1, 1));
        due("open()", y.open(), 12);
        y.quit(1, 1);
        due("pupil 2 has course 1", y.person(2, 3), 0b10);
        y.wish(1, 1);
        due("pupil 1 waits for it again", y.waits(1, 0), 1);
        y.quit(0, 0);
        due("pupil 2 moves to course 0", y.person(2, 3), 0b01);
        due("and pupil 1, before it by numbers, gets its place", y.person(1, 3), 0b10);
        due("pupil 3 waits on", y.why(3, 1), 5);
        due("moves of pupil 2", y.person(2, 6), 2);
        due("moves", y.count(8), 3);
    }

    private static void behindEachCall() {
        NightSchool x = school(seats(9), courses(row(0, 0, 1, 2), row(1, 0, 1, 1)), row(2, 0), row(1, 1), row(1));
        due("open()", x.open(), 12);
        due("a wish", x.wish(2, 0), 0);
        due("behind a wish", x.person(2, 3), 0b01);
        due("a wish for a full course", x.wish(0, 1), 1);
        due("behind it", x.person(0, 3), 0b01);
        x.quit(1, 1);
        due("behind a quit", x.person(0, 3), 0b11);
        due("moves", x.count(8), 2);
    }

    private static void firstPupil() {
        NightSchool x = school(seats(9), courses(row(0, 0, 1, 1), row(1, 0, 1, 9)), row(1, 0), row(2, 1, 0), row(1, 0), row(1, 0));
        due("open()", x.open(), 12);
        x.quit(0, 0);
        due("pupil 1, though its rank is greater", x.person(1, 3), 0b11);
        due("pupil 2", x.person(2, 3), 0);
        x.quit(1, 0);
        due("pupil 2", x.person(2, 3), 1);
        due("pupil 3", x.person(3, 3), 0);
        x.quit(2, 0);
        due("pupil 3", x.person(3, 3), 1);
        due("moves", x.count(8), 3);
    }

    private static void courseIsHeld() {
        NightSchool x = school(seats(9, 9), courses(row(0, 0, 1, 9), row(1, 0, 2, 9)), row(2, 0, 1), row(1));
        x.open();
        due("course 1 is not held", x.tell(1, 5), 0);
        due("a second wish for it", x.wish(1, 1), 0);
        due("does not bring it in the term", x.tell(1, 5), 0);
        x.weeks(1);
        due("pupil 0", x.person(0, 3), 1);
        due("pupil 1", x.person(1, 3), 0);
        due("moves", x.count(8), 0);
        x.close();
        x.open();
        due("but in the next one", x.tell(1, 5), 1);
    }

    private static void placeIsLeft() {
        NightSchool x = school(seats(9), courses(row(0, 0, 1, 2)), row(1, 0), row(1), row(1), row(1));
        x.open();
        x.wish(1, 0);
        due("the last place", x.why(1, 0), 0);
        x.wish(2, 0);
        due("no place", x.why(2, 0), 5);
        x.wish(3, 0);
        due("no place", x.why(3, 0), 5);
        due("pupils", x.tell(0, 8), 2);
        x.quit(0, 0);
        due("one place for one pupil", x.tell(0, 8), 2);
        due("pupil 2", x.why(2, 0), 0);
        due("pupil 3", x.why(3, 0), 5);
    }

    private static void itWishesLess() {
        NightSchool x = school(seats(9, 9), courses(row(0, 0, 1, 1), row(0, 1, 1, 9)), row(1, 0), row(1, 0, 1), row(1, 1, 0));
        due("open()", x.open(), 6 + 5 + 6);
        x.quit(0, 0);
        due("pupil 1 leaves course 1 for course 0", x.person(1, 3), 0b01);
        due("pupils of course 1", x.tell(1, 8), 1);
        due("its points", x.person(1, 5), 6);
        x.quit(1, 0);
        due("pupil 1 is back in course 1", x.person(1, 3), 0b10);
        due("pupil 2 has what it wishes more, though a place is left", x.person(2, 3), 0b10);
        due("why", x.why(2, 0), 3);
        due("moves of pupil 2", x.person(2, 6), 0);
    }

    private static void noneThenAndFewer() {
        NightSchool x = school(seats(9), courses(row(0, 0, 1, 1), row(1, 0, 1, 9), row(2, 0, 1, 9)),
            row(1, 0), row(1, 0, 1), row(2, 0, 1, 2), row(3, 0, 1, 2));
        due("open()", x.open(), 6 + 5 + 5 + 5 + 4 + 4);
        x.quit(0, 0);
        due("pupil 1 has as many as it wants", x.person(1, 3), 0b010);
        due("why", x.why(1, 0), 4);
        due("pupil 2, too, though it wishes that course most", x.person(2, 3), 0b110);
        due("why", x.why(2, 0), 4);
        due("pupil 3 has two of three", x.person(3, 3), 0b111);
        due("moves", x.count(8), 1);
    }

    private static void swapsWithAll() {
        NightSchool x = school(seats(9, 9), courses(row(0, 0, 1, 1), row(0, 1, 1, 9), row(1, 0, 1, 9), row(2, 0, 1, 9)),
            row(1, 0), row(3, 0, 1, 2, 3));
        due("open()", x.open(), 6 + 5 + 4 + 3);
        due("it has three of three", x.person(1, 3), 0b1110);
        x.quit(0, 0);
        due("it leaves one of that evening", x.person(1, 3), 0b1101);
        due("points", x.person(1, 5), 6 + 4 + 3);
    }

    private static void gaveUp() {
        NightSchool x = school(seats(9), courses(row(0, 0, 1, 9), row(1, 0, 1, 9)), row(2, 0, 1));
        x.open();
        due("quit(0, 1)", x.quit(0, 1), true);
        due("its courses", x.person(0, 3), 0b01);
        due("wishes", x.person(0, 4), 1);
        due("why", x.why(0, 1), 1);
        due("pupils", x.tell(1, 8), 0);
        due("quit(0, 1) again", x.quit(0, 1), false);
        due("quit(0, 0)", x.quit(0, 0), true);
        due("wishes", x.person(0, 4), 0);
        due("the first wish", x.person(0, 10), NONE);
        due("points", x.person(0, 5), 0);
        due("held on", x.count(3), 2);
    }

    /** A pupil who wants three, with six wishes, of which it has those that one pupil is enough for. */
    private static NightSchool sixWishes(int has) {
        NightSchool x = new NightSchool();
        x.room(9);
        x.room(9);
        for (int c = 0; c < 6; c++) {
            x.course(c % 5, c / 5, (has >> c & 1) == 1 ? 1 : 2, 9, 0);
        }
        x.pupil(9, 0, 3);
        for (int c = 0; c < 6; c++) {
            x.wish(0, c);
        }
        x.open();
        return x;
    }

    private static void oneRankLess() {
        for (int gone = 0; gone < 6; gone++) {
            NightSchool x = sixWishes(1 << gone);
            due("points", x.person(0, 5), 6 - gone);
            due("quit(0, " + gone + ")", x.quit(0, gone), true);
            due("wishes", x.person(0, 4), 5);
            for (int rank = 0; rank < 6; rank++) {
                int want = rank == 5 ? NONE : rank < gone ? rank : rank + 1;
                due("without " + gone + " the course of rank " + rank, x.person(0, 10 + rank), want);
            }
            due("it may come again, as the last one", x.wish(0, gone), 5);
        }
        NightSchool y = sixWishes(0b001110);
        due("points", y.person(0, 5), 5 + 4 + 3);
        y.quit(0, 2);
        due("the one behind is of one rank less", y.person(0, 5), 5 + 4);
        y.quit(0, 1);
        due("and of one less again", y.person(0, 5), 5);
    }

    /** The last pupil, with all the wishes that it may have, of the last courses. */
    private static void lastOfAll() {
        for (int gone = 7; gone <= 9; gone++) {
            NightSchool x = new NightSchool();
            x.room(9);
            for (int c = 0; c < 10; c++) {
                x.course(c % 5, c / 5, 1, 9, 0);
            }
            for (int p = 0; p < 30; p++) {
                x.pupil(p, 0, 3);
            }
            for (int rank = 0; rank < 6; rank++) {
                due("wish(29, " + (9 - rank) + ")", x.wish(29, 9 - rank), rank);
            }
            due("open()", x.open(), 6 + 5 + 4);
            due("courses", x.person(29, 3), 0b1110000000);
            due("quit(29, " + gone + ")", x.quit(29, gone), true);
            due("courses", x.person(29, 3), 0b1110000000 & ~(1 << gone));
            for (int rank = 0; rank < 6; rank++) {
                int want = rank == 5 ? NONE : 9 - rank > gone ? 9 - rank : 8 - rank;
                due("without " + gone + " the course of rank " + rank, x.person(29, 10 + rank), want);
            }
            due("it may come again", x.wish(29, gone), 5);
            due("and is had again", x.why(29, gone), 0);
            due("its moves", x.person(29, 6), 1);
        }
    }

    private static void hasItNot() {
        changesNothing(TermEdgeTest::calm, "quit(0, 0) before a term", x -> bit(x.quit(0, 0)), 0);
        changesNothing(TermEdgeTest::busy, "quit of a wish without a place", x -> bit(x.quit(3, 0)), 0);
        changesNothing(TermEdgeTest::busy, "quit of what was left by moving up", x -> bit(x.quit(1, 1)), 0);
        changesNothing(TermEdgeTest::busy, "quit of no wish", x -> bit(x.quit(0, 1)), 0);
        changesNothing(TermEdgeTest::busy, "quit again", x -> bit(x.quit(0, 0)), 0);
        changesNothing(() -> {
            NightSchool x = busy();
            x.close();
            return x;
        }, "quit behind a term", x -> bit(x.quit(1, 0)), 0);
        for (int n : new int[] {4, 30, 31, 32}) {
            changesNothing(TermEdgeTest::busy, "quit(" + n + ", 0)", x -> bit(x.quit(n, 0)), 0);
        }
        for (int n : new int[] {3, 10, 31, 32, 33}) {
            changesNothing(TermEdgeTest::busy, "quit(1, " + n + ")", x -> bit(x.quit(1, n)), 0);
        }
        for (int n : FAR) {
            changesNothing(TermEdgeTest::busy, "quit(" + n + ", 0)", x -> bit(x.quit(n, 0)), 0);
            changesNothing(TermEdgeTest::busy, "quit(1, " + n + ")", x -> bit(x.quit(1, n)), 0);
        }
        due("new object", new NightSchool().quit(0, 0), false);
    }

    public static void main(String[] args) {
        sentence(13, "The TERM is over", TermEdgeTest::termIsOver);
        sentence(13, "ROOMS, COURSES, PUPILS and WISHES stay", TermEdgeTest::theseStay);
        sentence(13, "no PUPIL has a COURSE", TermEdgeTest::noPupilHasOne);
        sentence(13, "hours begin anew", TermEdgeTest::hoursBeginAnew);
        sentence(13, "how many weeks it had", TermEdgeTest::weeksItHad);
        sentence(13, "NONE: there is none", TermEdgeTest::thereIsNone);
        sentence(14, "So many WEEKS go by, 1 .. 20: which week it is then", TermEdgeTest::oneToTwenty);
        sentence(14, "NONE: .. for another number", TermEdgeTest::anotherNumber);
        sentence(14, "NONE: there is no TERM", TermEdgeTest::weeksWithoutTerm);
        sentence(14, "each COURSE that is held is two hours for its TEACHER and its ROOM", TermEdgeTest::twoHours);
        sentence(14, "that has fewer than half its LEAST (2 times its pupils is less than LEAST) FALLS", TermEdgeTest::fewerThanHalf);
        sentence(14, "it is held no more, its pupils leave it", TermEdgeTest::heldNoMore);
        sentence(14, "then each, by numbers, that .. FALLS", TermEdgeTest::fallsBeforeAllMove);
        sentence(14, "Then all MOVE UP", TermEdgeTest::thenAllMoveUp);
        sentence(15, "all MOVE UP: as long as one can", TermEdgeTest::asLongAsOneCan);
        sentence(15, "as long as one can, the first PUPIL, by numbers", TermEdgeTest::earlierPupilsToo);
        sentence(15, "Behind each call that changes who has what, or wishes", TermEdgeTest::behindEachCall);
        sentence(15, "the first PUPIL, by numbers", TermEdgeTest::firstPupil);
        sentence(15, "the COURSE is held", TermEdgeTest::courseIsHeld);
        sentence(15, "a PLACE is left", TermEdgeTest::placeIsLeft);
        sentence(15, "it has one on that EVENING that it WISHES less (of a greater RANK), which it leaves then", TermEdgeTest::itWishesLess);
        sentence(15, "or it has none on that EVENING, and fewer than it WANTS", TermEdgeTest::noneThenAndFewer);
        sentence(15, "which it leaves then, with as many as it WANTS, too", TermEdgeTest::swapsWithAll);
        sentence(15, "A PUPIL gives up a COURSE that it has: this WISH is no more", TermEdgeTest::gaveUp);
        sentence(15, "those behind it are of one RANK less", TermEdgeTest::oneRankLess);
        sentence(15, "those behind it are of one RANK less, of the last PUPIL, too", TermEdgeTest::lastOfAll);
        sentence(15, "False: it has it not", TermEdgeTest::hasItNot);
        finish();
    }
}
