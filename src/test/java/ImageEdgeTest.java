/** Promises 24 and 25, and the bound of 512 calls: the edges of images and of a long use. */
public final class ImageEdgeTest extends Edge {
    private static void threeImages() {
        NightSchool x = new NightSchool();
        for (int k = 0; k < 3; k++) {
            x.room(9);
            due("image(" + k + ")", x.image(k), true);
        }
        for (int k = 2; k >= 0; k--) {
            due("again(" + k + ")", x.again(k), true);
            due("rooms of image " + k, x.count(0), k + 1);
        }
    }

    private static void anotherK() {
        for (int k : new int[] {3, 4, 32}) {
            changesNothing(ImageEdgeTest::busy, "image(" + k + ")", x -> bit(x.image(k)), 0);
        }
        for (int k : FAR) {
            changesNothing(ImageEdgeTest::busy, "image(" + k + ")", x -> bit(x.image(k)), 0);
        }
    }

    private static void imageChangesNothingElse() {
        for (int k = 0; k < 3; k++) {
            NightSchool x = busy();
            x.image(k);
            same("behind image(" + k + ")", picture(x), picture(busy()));
            due("the tape", x.end(6), 6);
            due("the fault", x.fault(0), 1);
            due("its place", x.fault(1), 5);
        }
    }

    private static void asItIsNow() {
        NightSchool x = new NightSchool();
        x.room(9);
        x.image(1);
        x.room(9);
        x.again(1);
        due("what came behind it is gone", x.count(0), 1);
        x.room(9);
        x.room(9);
        due("an image in place of another", x.image(1), true);
        x.room(9);
        x.again(1);
        due("rooms of the later image", x.count(0), 3);
    }

    private static void change(NightSchool x) {
        x.quit(1, 0);
        x.wish(0, 2);
        x.weeks(5);
        x.close();
        x.room(33);
        x.course(4, 5, 6, 7, 8);
        x.pupil(99, 2, 3);
        x.wish(4, 3);
        x.wish(0, 1);
        x.end(0);
        fees(x, "add 1;add 2;add 3;when age=30 and purse=1:add 4;");
    }

    private static void allThatIs() {
        for (int k = 0; k < 3; k++) {
            NightSchool x = busy();
            x.image(k);
            change(x);
            due("again(" + k + ")", x.again(k), true);
            same("a term behind again(" + k + ")", picture(x), picture(busy()));
            NightSchool y = calm();
            y.image(k);
            y.open();
            y.weeks(3);
            change(y);
            due("again(" + k + ")", y.again(k), true);
            same("no term behind again(" + k + ")", picture(y), picture(calm()));
            NightSchool z = new NightSchool();
            z.image(k);
            z.room(9);
            z.course(0, 0, 1, 9, 5);
            z.pupil(9, 0, 1);
            z.wish(0, 0);
            fees(z, "add 1;");
            z.open();
            z.weeks(1);
            due("again(" + k + ")", z.again(k), true);
            same("nothing behind again(" + k + ")", picture(z), picture(new NightSchool()));
        }
    }

    private static NightSchool way(NightSchool x, int[] seats, int[][] courses, int age, String text) {
        for (int n : seats) {
            x.room(n);
        }
        for (int[] c : courses) {
            x.course(c[0], c[1], c[2], c[3], c[4]);
        }
        for (int p = 0; p < 4; p++) {
            x.pupil(age + p, age % 3, 1 + (age + p) % 3);
            for (int rank = 0; rank < 3; rank++) {
                x.wish(p, (age + p + rank) % 3);
            }
        }
        fees(x, text);
        x.open();
        x.quit(1, Math.max(x.person(1, 23), x.person(1, 24)));
        x.weeks(2);
        return x;
    }

    private static NightSchool oneWay(NightSchool x) {
        return way(x, seats(9, 40), courses(row(4, 5, 3, 5, 700), row(3, 4, 2, 8, 800), row(4, 3, 1, 7, 900)), 80,
            "when sum>700 and age<83:less 9;when courses=2:part 3/4;");
    }

    private static NightSchool otherWay(NightSchool x) {
        return way(x, seats(40, 2), courses(row(0, 1, 2, 5, 10), row(4, 2, 1, 3, 20), row(3, 0, 1, 4, 30)), 21,
            "when age=22 and purse=0:add 50;when week=2:part 1/2;less 1;");
    }

    private static NightSchool bothWays() {
        NightSchool x = new NightSchool();
        x.image(0);
        oneWay(x);
        x.image(1);
        x.again(0);
        otherWay(x);
        x.image(2);
        return x;
    }

    /** Two histories from one image, with other numbers everywhere: neither has anything of the other one. */
    private static void twoWays() {
        NightSchool x = bothWays();
        same("the second way", picture(x), picture(otherWay(new NightSchool())));
        NightSchool y = bothWays();
        y.again(1);
        same("the first way again", picture(y), picture(oneWay(new NightSchool())));
        NightSchool z = bothWays();
        z.again(1);
        z.again(2);
        same("the second way again", picture(z), picture(otherWay(new NightSchool())));
        NightSchool w = bothWays();
        w.again(0);
        same("nothing again", picture(w), picture(new NightSchool()));
    }

    private static NightSchool greatest() {
        NightSchool x = new NightSchool();
        x.image(0);
        for (int i = 0; i < 5; i++) {
            x.room(40);
        }
        for (int i = 0; i < 10; i++) {
            x.course(i % 5, i / 5, 1, 40, 100 * i);
        }
        for (int i = 0; i < 30; i++) {
            x.pupil(i, 0, 3);
        }
        for (int i = 0; i < 180; i++) {
            x.wish(i / 6, (i / 6 + i % 6) % 10);
        }
        return x;
    }

    /** An image has room for as much as there can be. */
    private static void greatestImage() {
        NightSchool x = greatest();
        x.image(2);
        x.again(0);
        for (int i = 0; i < 30; i++) {
            x.course(0, 0, 1, 1, 0);
            x.pupil(100, 2, 1);
        }
        for (int rank = 0; rank < 6; rank++) {
            x.wish(15, 9 - rank);
            x.wish(29, 8 - rank);
        }
        x.again(2);
        for (int i = 0; i < 180; i++) {
            due("rank " + i % 6 + " of pupil " + i / 6, x.person(i / 6, 10 + i % 6), (i / 6 + i % 6) % 10);
        }
        NightSchool y = greatest();
        y.open();
        y.weeks(1);
        y.image(2);
        y.again(0);
        y.again(2);
        for (int p = 0; p < 30; p++) {
            due("places of pupil " + p, Integer.bitCount(y.person(p, 3)), 3);
            due("age of pupil " + p, y.person(p, 0), p);
        }
        for (int c = 0; c < 10; c++) {
            due("price of course " + c, y.tell(c, 4), 100 * c);
            due("room of course " + c, y.tell(c, 6), c / 5);
            due("weeks of course " + c, y.tell(c, 9), 1);
        }
        due("hours of teacher 1", y.hours(0, 1), 10);
        due("hours of room 1", y.hours(1, 1), 10);
        due("hours of room 4", y.hours(1, 4), 0);
        NightSchool z = greatest();
        fees(z, "add 1;".repeat(15) + "when age>3 and age<7 and age>4 and age<6:add 9;");
        z.image(2);
        fees(z, "when age=99 and age=99 and age=99 and age=99:end;");
        z.again(2);
        for (int p = 0; p < 30; p++) {
            due("bill of pupil " + p, z.bill(p), p == 5 ? 24 : 15);
        }
    }

    /** What is told of rooms, courses and pupils that are not there yet must not come from later ones. */
    private static void goesOnFromThere() {
        NightSchool x = calm();
        x.image(2);
        change(x);
        x.again(2);
        NightSchool twin = calm();
        for (NightSchool each : new NightSchool[] {x, twin}) {
            each.room(8);
            each.course(2, 2, 1, 3, 30);
            each.pupil(40, 1, 2);
            each.wish(4, 3);
            each.wish(0, 3);
            each.open();
            each.weeks(2);
        }
        same("the same calls behind again(2)", picture(x), picture(twin));
    }

    private static void imageStays() {
        NightSchool x = busy();
        x.image(2);
        for (int i = 0; i < 3; i++) {
            due("again(2)", x.again(2), true);
            due("week", x.count(6), 2);
            due("places", x.count(4), 4);
            x.quit(1, 0);
            x.weeks(1);
            x.close();
        }
        x.again(2);
        same("behind many changes", picture(x), picture(busy()));
        NightSchool y = new NightSchool();
        y.image(0);
        y.room(9);
        y.image(1);
        y.again(0);
        due("an image is no part of an image", y.again(1), true);
        due("rooms", y.count(0), 1);
    }

    private static void butTheTapeAndFault() {
        NightSchool x = new NightSchool();
        onTape(x, "free;");
        x.image(0);
        x.end(0);
        onTape(x, "add 1;add 2;");
        x.again(0);
        due("the tape is not as it was", x.end(12), 12);
        due("fees()", x.fees(), 2);
        x.image(0);
        fees(x, "!");
        x.again(0);
        due("fault(0) is not as it was", x.fault(0), 1);
        due("fault(1)", x.fault(1), 0);
        x.image(0);
        x.fees();
        x.again(0);
        due("fault(0) is none", x.fault(0), 0);
        due("fault(1) is none", x.fault(1), NONE);
        due("the fees are as they were", x.count(7), 2);
    }

    private static void noneSuch() {
        NightSchool x = new NightSchool();
        for (int k = 0; k < 3; k++) {
            due("again(" + k + ") before image(" + k + ")", x.again(k), false);
            x.image(k);
            due("again(" + k + ")", x.again(k), true);
        }
        changesNothing(ImageEdgeTest::busy, "again(2)", y -> bit(y.again(2)), 0);
        changesNothing(ImageEdgeTest::busy, "again(3)", y -> bit(y.again(3)), 0);
        for (int k : FAR) {
            changesNothing(ImageEdgeTest::busy, "again(" + k + ")", y -> bit(y.again(k)), 0);
        }
    }

    private static void termByAgain() {
        NightSchool x = calm();
        x.image(2);
        x.open();
        due("room in a term", x.room(9), NONE);
        x.again(2);
        due("room without one", x.room(9), 2);
        due("weeks without one", x.weeks(1), NONE);
        x.open();
        x.weeks(4);
        x.image(2);
        x.close();
        x.again(2);
        due("the term is there again", x.weeks(1), 5);
        due("open()", x.open(), NONE);
        due("close()", x.close(), 5);
    }

    /** The greatest school that there can be, and one call after another until there were 512. */
    private static void calls512() {
        NightSchool x = new NightSchool();
        int calls = 0;
        for (int i = 0; i < 5; i++, calls++) {
            due("room", x.room(40), i);
        }
        for (int i = 0; i < 10; i++, calls++) {
            due("course", x.course(i % 5, i / 5, 1, 40, 1000), i);
        }
        for (int i = 0; i < 30; i++, calls++) {
            due("pupil", x.pupil(i, 0, 3), i);
        }
        for (int i = 0; i < 180; i++, calls++) {
            due("wish", x.wish(i / 6, (i / 6 + i % 6) % 10), i % 6);
        }
        for (int i = 0; i < 3; i++, calls++) {
            due("image", x.image(i), true);
        }
        for (int i = 0; calls < 512; i++, calls += 2) {
            due("open", x.open(), 450);
            due(i % 2 == 0 ? "close" : "again", i % 2 == 0 ? x.close() : bit(x.again(i % 3)), i % 2);
        }
    }

    public static void main(String[] args) {
        sentence(24, "Image k (0 .. 2) .. true", ImageEdgeTest::threeImages);
        sentence(24, "false for another k", ImageEdgeTest::anotherK);
        sentence(24, "Image k is all that is told, and nothing else is changed", ImageEdgeTest::imageChangesNothingElse);
        sentence(24, "as it is now", ImageEdgeTest::asItIsNow);
        sentence(25, "All that is as image k has it: true", ImageEdgeTest::allThatIs);
        sentence(25, "All that is as image k has it, and nothing is from another time", ImageEdgeTest::twoWays);
        sentence(25, "All that is as image k has it, in the greatest school, too", ImageEdgeTest::greatestImage);
        sentence(25, "All that is as image k has it, and goes on from there", ImageEdgeTest::goesOnFromThere);
        sentence(25, "the image is the same behind again", ImageEdgeTest::imageStays);
        sentence(25, "all that is told but the tape and the FAULT", ImageEdgeTest::butTheTapeAndFault);
        sentence(25, "false if there is none such", ImageEdgeTest::noneSuch);
        sentence(25, "All that is as image k has it: the TERM, too", ImageEdgeTest::termByAgain);
        sentence(25, "An object is used for at most 512 calls", ImageEdgeTest::calls512);
        finish();
    }
}
