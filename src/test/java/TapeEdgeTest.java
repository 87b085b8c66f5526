/** Promises 1, 2 and 3: the edges of a new object and of the tape. */
public final class TapeEdgeTest extends Edge {

    private static void noRooms() {
        NightSchool x = new NightSchool();
        due("count(0)", x.count(0), 0);
        due("hours(1, 0)", x.hours(1, 0), NONE);
        due("the first room", x.room(1), 0);
    }

    private static void noCourses() {
        NightSchool x = new NightSchool();
        due("count(1)", x.count(1), 0);
        due("count(3)", x.count(3), 0);
        for (int what = 0; what <= 9; what++) {
            due("tell(0, " + what + ")", x.tell(0, what), NONE);
        }
        due("canHold(1)", x.canHold(1), false);
        due("waits(0, 0)", x.waits(0, 0), NONE);
        due("the first course", x.course(0, 0, 1, 1, 0), 0);
    }

    private static void noPupils() {
        NightSchool x = new NightSchool();
        due("count(2)", x.count(2), 0);
        due("count(4)", x.count(4), 0);
        due("count(5)", x.count(5), 0);
        for (int what = 0; what <= 24; what++) {
            due("person(0, " + what + ")", x.person(0, what), NONE);
        }
        due("bill(0)", x.bill(0), NONE);
        due("the first pupil", x.pupil(0, 0, 1), 0);
    }

    private static void noTerm() {
        NightSchool x = new NightSchool();
        due("count(6)", x.count(6), NONE);
        due("count(8)", x.count(8), 0);
        due("weeks(1)", x.weeks(1), NONE);
        due("close()", x.close(), NONE);
        due("open()", x.open(), 0);
    }

    private static void noFees() {
        NightSchool x = school(seats(5), courses(row(0, 0, 1, 5), row(1, 0, 1, 5)), row(2, 0, 1));
        due("count(7)", x.count(7), 0);
        due("line(0, 0)", x.line(0, 0), NO_LINE);
        due("bill(0) of nothing", x.bill(0), 0);
        x.open();
        due("bill(0) is the sum", x.bill(0), 20);
    }

    private static void emptyTape() {
        NightSchool x = new NightSchool();
        due("end(1)", x.end(1), NONE);
        due("end(0)", x.end(0), 0);
        due("fees()", x.fees(), 0);
        due("feed", x.feed(0, 0, 0, 0, 0), 20);
    }

    private static void noImages() {
        for (int k = 0; k < 3; k++) {
            due("again(" + k + ")", new NightSchool().again(k), false);
        }
    }

    private static void eachForItself() {
        NightSchool x = busy();
        NightSchool y = new NightSchool();
        for (int what : new int[] {0, 1, 2, 3, 4, 5, 7, 8}) {
            due("count(" + what + ")", y.count(what), 0);
        }
        due("count(6)", y.count(6), NONE);
        due("end(1)", y.end(1), NONE);
        due("fault(0)", y.fault(0), 0);
        due("fault(1)", y.fault(1), NONE);
        due("again(0)", y.again(0), false);
        y.room(3);
        due("rooms of the other one", x.count(0), 2);
    }

    private static void twentyBytes() {
        NightSchool x = new NightSchool();
        for (int i = 1; i <= 25; i++) {
            due("feed " + i, x.feed(0, 0, 0, 0, 0), 20 * i);
        }
        NightSchool y = new NightSchool();
        y.feed(0, 0, 0, 0, 0);
        for (int n = 19; n >= 0; n--) {
            y.end(n);
            due("feed behind " + n, y.feed(0, 0, 0, 0, 0), n + 20);
        }
    }

    private static void behindTheTape() {
        NightSchool x = new NightSchool();
        String text = "add 1;add 20;add 300;add 4000;add 50000;end;";
        for (int from = 0; from < 60; from += 20) {
            feedPart(x, text, from);
        }
        due("fees()", x.fees(), 6);
        x.pupil(0, 0, 1);
        due("line(0, 0)", x.line(0, 0), 1);
        due("line(0, 1)", x.line(0, 1), 20);
        due("line(0, 2)", x.line(0, 2), 300);
        due("line(0, 3)", x.line(0, 3), 4000);
        due("line(0, 4)", x.line(0, 4), 50000);
    }

    /** A tape of blanks with one byte that is none: the fault tells where that byte is. */
    private static void highestFirst() {
        for (int at = 0; at < 20; at++) {
            for (int odd : new int[] {0, 1, 127, 128, 255}) {
                int[] n = {0x20202020, 0x20202020, 0x20202020, 0x20202020, 0x20202020};
                int shift = 24 - 8 * (at % 4);
                n[at / 4] = n[at / 4] & ~(255 << shift) | odd << shift;
                NightSchool x = new NightSchool();
                x.feed(n[0], n[1], n[2], n[3], n[4]);
                due("fees() with a byte " + odd + " at " + at, x.fees(), NONE);
                due("fault(1) with a byte " + odd + " at " + at, x.fault(1), at);
            }
        }
        NightSchool y = new NightSchool();
        // "add " "1234" "5;  " and blanks
        due("feed", y.feed(0x61646420, 0x31323334, 0x353b2020, 0x20202020, 0x0a0a0a0a), 20);
        due("fees()", y.fees(), 1);
        y.pupil(0, 0, 1);
        due("line(0, 0)", y.line(0, 0), 12345);
    }

    private static void fill(NightSchool x) {
        onTape(x, " ".repeat(495) + "free;");
    }

    private static void moreThan500() {
        for (int n = 478; n <= 500; n++) {
            NightSchool x = new NightSchool();
            fill(x);
            x.end(n);
            due("feed behind " + n, x.feed(1, 1, 1, 1, 1), n <= 480 ? n + 20 : NONE);
        }
    }

    private static void nothingComes() {
        NightSchool x = new NightSchool();
        fill(x);
        due("feed behind 500", x.feed(-1, -1, -1, -1, -1), NONE);
        due("end(501)", x.end(501), NONE);
        due("fees() of the text from before", x.fees(), 1);
        NightSchool y = new NightSchool();
        fill(y);
        y.end(481);
        due("feed behind 481", y.feed(-1, -1, -1, -1, -1), NONE);
        due("end(482)", y.end(482), NONE);
        due("fees() of blanks", y.fees(), 0);
        changesNothing(() -> {
            NightSchool z = busy();
            z.end(0);
            fill(z);
            return z;
        }, "feed of a full tape", z -> z.feed(1, 2, 3, 4, 5), NONE);
    }

    private static void firstBytesAlone() {
        NightSchool x = new NightSchool();
        onTape(x, "free;add 7;less 3;");
        due("end(11)", x.end(11), 11);
        due("fees()", x.fees(), 2);
        onTape(x, "free;add 7;!");
        due("end(5)", x.end(5), 5);
        due("what comes stands behind the first bytes", feedPart(x, "end;", 0), 25);
        due("fees()", x.fees(), 2);
        onTape(x, "add 12345;");
        due("end(6)", x.end(6), 6);
        due("a number is cut, too", x.fees(), NONE);
        due("fault(1)", x.fault(1), 6);
        onTape(x, "free;");
        due("end(4)", x.end(4), 4);
        due("what stood behind does not come back", x.end(5), NONE);
    }

    private static void endAnswers() {
        NightSchool x = new NightSchool();
        x.feed(0, 0, 0, 0, 0);
        for (int n = 20; n >= 0; n--) {
            due("end(" + n + ")", x.end(n), n);
            due("end(" + n + ") again", x.end(n), n);
        }
        NightSchool y = new NightSchool();
        fill(y);
        due("end(500) of a full tape", y.end(500), 500);
        due("end(0) of a full tape", y.end(0), 0);
        due("end(0) of an empty tape", y.end(0), 0);
    }

    private static void notSoMany() {
        NightSchool x = new NightSchool();
        due("end(1) of an empty tape", x.end(1), NONE);
        x.feed(0, 0, 0, 0, 0);
        due("end(21)", x.end(21), NONE);
        due("end(500)", x.end(500), NONE);
        due("end(max)", x.end(MAX), NONE);
        due("end(20)", x.end(20), 20);
        due("end(19)", x.end(19), 19);
        due("end(20)", x.end(20), NONE);
        NightSchool y = new NightSchool();
        fill(y);
        due("end(501) of a full tape", y.end(501), NONE);
        changesNothing(TapeEdgeTest::busy, "end(7)", z -> z.end(7), NONE);
    }

    private static void belowZero() {
        changesNothing(TapeEdgeTest::busy, "end(-1)", z -> z.end(-1), NONE);
        changesNothing(TapeEdgeTest::busy, "end(-6)", z -> z.end(-6), NONE);
        changesNothing(TapeEdgeTest::busy, "end(min)", z -> z.end(MIN), NONE);
        due("end(-1) of an empty tape", new NightSchool().end(-1), NONE);
    }

    public static void main(String[] args) {
        sentence(1, "No ROOMS", TapeEdgeTest::noRooms);
        sentence(1, "No .. COURSES", TapeEdgeTest::noCourses);
        sentence(1, "No .. PUPILS", TapeEdgeTest::noPupils);
        sentence(1, "no TERM", TapeEdgeTest::noTerm);
        sentence(1, "no FEES (a BILL is the SUM)", TapeEdgeTest::noFees);
        sentence(1, "the tape is empty", TapeEdgeTest::emptyTape);
        sentence(1, "no images", TapeEdgeTest::noImages);
        sentence(1, "a new object", TapeEdgeTest::eachForItself);
        sentence(2, "Twenty bytes come .. how many it has", TapeEdgeTest::twentyBytes);
        sentence(2, "behind the tape", TapeEdgeTest::behindTheTape);
        sentence(2, "of each number the highest first", TapeEdgeTest::highestFirst);
        sentence(2, "NONE .. if there would be more than 500", TapeEdgeTest::moreThan500);
        sentence(2, "and nothing comes", TapeEdgeTest::nothingComes);
        sentence(3, "The tape has its first n bytes alone", TapeEdgeTest::firstBytesAlone);
        sentence(3, "n", TapeEdgeTest::endAnswers);
        sentence(3, "NONE if it has not so many", TapeEdgeTest::notSoMany);
        sentence(3, "or n is below 0", TapeEdgeTest::belowZero);
        finish();
    }
}
