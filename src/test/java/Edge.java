import java.util.function.Supplier;
import java.util.function.ToLongFunction;

/**
 * What the edge tests share. A test there stands for one sentence of the document, whose words it bears,
 * and no object in it gets more than the 512 calls for which its answers are promised.
 */
abstract class Edge {
    static final int NONE = NightSchool.NONE;
    static final int NO_LINE = -2000000000;
    static final int MIN = Integer.MIN_VALUE;
    static final int MAX = Integer.MAX_VALUE;
    /** Numbers that are far from all that the document numbers. */
    static final int[] FAR = {MIN, MIN + 1, -1000000, -2, -1, 1000, 1024, 1000000, MAX - 1, MAX};

    private static String words = "";
    private static int sentences = 0;
    private static int looked = 0;
    private static int wrong = 0;

    /** A test that looks at nothing would hold for every program, so it counts as a wrong one. */
    static void sentence(int promise, String said, Runnable test) {
        words = "promise " + promise + ": '" + said + "'";
        sentences++;
        int before = looked;
        test.run();
        if (looked == before) {
            wrong++;
            System.out.println(words + ": the test looks at no answer");
        }
    }

    static void finish() {
        System.out.println(sentences + " sentences, " + looked + " answers looked at, " + wrong + " of them wrong");
        if (wrong != 0) {
            System.exit(1);
        }
    }

    static void due(String call, long got, long want) {
        looked++;
        if (got != want) {
            wrong++;
            System.out.println(words + ": " + call + " answered " + got + ", due is " + want);
        }
    }

    static void due(String call, boolean got, boolean want) {
        due(call, bit(got), bit(want));
    }

    static int bit(boolean b) {
        return b ? 1 : 0;
    }

    /** The numbers of twenty bytes of a text, with blanks behind its end. */
    static int[] numbersOf(String text, int from) {
        int[] numbers = new int[5];
        for (int i = 0; i < 20; i++) {
            int b = from + i < text.length() ? text.charAt(from + i) & 255 : ' ';
            numbers[i / 4] = numbers[i / 4] << 8 | b;
        }
        return numbers;
    }

    static int feedPart(NightSchool x, String text, int from) {
        int[] n = numbersOf(text, from);
        return x.feed(n[0], n[1], n[2], n[3], n[4]);
    }

    /** Puts a text on an empty tape. */
    static void onTape(NightSchool x, String text) {
        for (int from = 0; from < text.length(); from += 20) {
            feedPart(x, text, from);
        }
        due("end of the text", x.end(text.length()), text.length());
    }

    /** Takes a text as fees; the tape must be empty. */
    static int fees(NightSchool x, String text) {
        onTape(x, text);
        return x.fees();
    }

    /** Courses are rows of evening, teacher, least and most, at a price of 10; pupils are rows of wants, then wishes. */
    static NightSchool school(int[] seats, int[][] courses, int[]... pupils) {
        NightSchool x = new NightSchool();
        for (int s : seats) {
            x.room(s);
        }
        for (int[] c : courses) {
            x.course(c[0], c[1], c[2], c[3], 10);
        }
        for (int i = 0; i < pupils.length; i++) {
            x.pupil(30, 1, pupils[i][0]);
            for (int r = 1; r < pupils[i].length; r++) {
                x.wish(i, pupils[i][r]);
            }
        }
        return x;
    }

    static int[] seats(int... seats) {
        return seats;
    }

    static int[][] courses(int[]... courses) {
        return courses;
    }

    static int[] row(int... numbers) {
        return numbers;
    }

    /** So many pupils, each of whom wants one course and wishes this one. */
    static int[][] crowd(int pupils, int course) {
        int[][] rows = new int[pupils][];
        for (int i = 0; i < pupils; i++) {
            rows[i] = new int[] {1, course};
        }
        return rows;
    }

    /** Before its term, with fees, a fault, a tape of six bytes, and image 0 of a school without fees. */
    static NightSchool calm() {
        NightSchool x = school(seats(10, 20), courses(row(0, 0, 1, 1), row(0, 1, 1, 1), row(1, 0, 2, 5)),
            row(1, 0), row(2, 0, 1, 2), row(2, 1, 2), row(1, 0));
        x.image(0);
        fees(x, "when courses=1:add 7;part 1/2;");
        fees(x, "free;fre;");
        onTape(x, "add 1;");
        return x;
    }

    /** The same school in week 2 of a term in which two pupils have moved up; image 1 is of week 0. */
    static NightSchool busy() {
        NightSchool x = calm();
        x.open();
        x.image(1);
        x.quit(0, 0);
        x.weeks(2);
        return x;
    }

    private static void see(StringBuilder seen, String call, long answer) {
        seen.append(call).append(" tells ").append(answer).append('\n');
    }

    private static void seeCourse(StringBuilder seen, NightSchool x, int c) {
        for (int what = 0; what <= 9; what++) {
            see(seen, "tell(" + c + ", " + what + ")", x.tell(c, what));
        }
        for (int k = 0; k < x.count(2); k++) {
            see(seen, "waits(" + c + ", " + k + ")", x.waits(c, k));
        }
    }

    private static void seePupil(StringBuilder seen, NightSchool x, int p) {
        int[] whats = {0, 1, 2, 3, 4, 5, 6, 10, 11, 12, 13, 14, 15, 20, 21, 22, 23, 24};
        for (int what : whats) {
            see(seen, "person(" + p + ", " + what + ")", x.person(p, what));
        }
        for (int c = 0; c < x.count(1); c++) {
            see(seen, "why(" + p + ", " + c + ")", x.why(p, c));
        }
        for (int k = 0; k < x.count(7); k++) {
            see(seen, "line(" + p + ", " + k + ")", x.line(p, k));
        }
        see(seen, "bill(" + p + ")", x.bill(p));
    }

    /** All that is told of a small school, but the tape and the fault. */
    static String picture(NightSchool x) {
        StringBuilder seen = new StringBuilder();
        for (int what = 0; what <= 8; what++) {
            see(seen, "count(" + what + ")", x.count(what));
        }
        for (int c = 0; c < x.count(1); c++) {
            seeCourse(seen, x, c);
        }
        for (int p = 0; p < x.count(2); p++) {
            seePupil(seen, x, p);
        }
        for (int k = 0; k < 6; k++) {
            see(seen, "hours(0, " + k + ")", x.hours(0, k));
            see(seen, "hours(1, " + k + ")", x.hours(1, k));
        }
        for (int set = 0; set < 1 << Math.min(3, x.count(1)); set++) {
            see(seen, "canHold(" + set + ")", bit(x.canHold(set)));
            see(seen, "points(" + set + ")", x.points(set));
        }
        return seen.toString();
    }

    /** The tape, the fault and the images; the object is of no use behind it. */
    static String lastPicture(NightSchool x) {
        StringBuilder seen = new StringBuilder();
        see(seen, "fault(0)", x.fault(0));
        see(seen, "fault(1)", x.fault(1));
        see(seen, "feed", feedPart(x, "!", 0));
        see(seen, "fees()", x.fees());
        see(seen, "fault(1)", x.fault(1));
        for (int k = 0; k < 3; k++) {
            see(seen, "again(" + k + ")", bit(x.again(k)));
            for (int what = 0; what <= 8; what++) {
                see(seen, "count(" + what + ")", x.count(what));
            }
        }
        return seen.toString();
    }

    static void same(String name, String got, String want) {
        looked++;
        if (got.equals(want)) {
            return;
        }
        wrong++;
        String[] gotLines = got.split("\n");
        String[] wantLines = want.split("\n");
        int i = 0;
        while (i < gotLines.length && i < wantLines.length && gotLines[i].equals(wantLines[i])) {
            i++;
        }
        System.out.println(words + ": " + name + ": " + (i < gotLines.length ? gotLines[i] : "nothing")
            + ", due is: " + (i < wantLines.length ? wantLines[i] : "nothing"));
    }

    /** The call answers so, and leaves the school just as one that is made alike and never had the call. */
    static void changesNothing(Supplier<NightSchool> make, String call, ToLongFunction<NightSchool> asked, long want) {
        NightSchool x = make.get();
        NightSchool twin = make.get();
        due(call, asked.applyAsLong(x), want);
        same(call + " changes something", picture(x) + lastPicture(x), picture(twin) + lastPicture(twin));
    }
}
