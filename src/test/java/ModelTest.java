import java.util.Random;

/**
 * Random runs of calls, each answered by the program and by SchoolModel: every answer must be the same.
 * Half the calls are questions. The seeds are fixed, so each run is always the same; and no object gets more than
 * the 512 calls for which its answers are promised.
 */
public final class ModelTest {
    private static final int RUNS = 3000;
    private static final int CALLS = 512;
    /** A text of fees takes 26 feeds at most, of which the last one is refused, end, fees and two questions. */
    private static final int CALLS_OF_FEES = 30;
    private static final int[] ODD = {Integer.MIN_VALUE, -1000, -1, 0, 1, 5, 6, 9, 10, 29, 30, 40, 41, 1024, Integer.MAX_VALUE};
    private static final String[] SUBJECTS = {"age", "purse", "courses", "sum", "first", "week"};
    private static final String[] PIECES = {"when", "and", "age", "sum", "add", "part", "free", "end", "less", "least",
        "most", ":", ";", "/", "<", ">", "=", "0", "7", "00000", "12345", "123456", " ", "\n", "!", "when age<3", "A", "\r", "\u00ff"};

    private final int seed;
    private final Random random;
    private final NightSchool real = new NightSchool();
    private final SchoolModel model = new SchoolModel();
    private final int evenings;
    private final int leastBound;
    private final int mostBound;
    private final int seatBound;
    private int wrong;
    private int calls;
    /** How often the runs came to cases that must not be missed: 0 to 4 by calls, 5 to 8 the FAULT, 9 to 14 why(). */
    private static final int[] seen = new int[15];

    private ModelTest(int seed) {
        this.seed = seed;
        random = new Random(seed);
        evenings = 1 + random.nextInt(5);
        leastBound = 1 + random.nextInt(random.nextBoolean() ? 3 : 8);
        mostBound = leastBound + random.nextInt(8);
        seatBound = 1 + random.nextInt(random.nextBoolean() ? 12 : 40);
    }

    private void same(String call, long got, long want) {
        calls++;
        if (got != want) {
            wrong++;
            if (wrong < 5) {
                System.out.println("seed " + seed + ", call " + calls + ": " + call + " answered " + got + ", due is " + want);
            }
        }
    }

    private static int bit(boolean b) {
        return b ? 1 : 0;
    }

    private int below(int bound) {
        return random.nextInt(40) == 0 ? ODD[random.nextInt(ODD.length)] : random.nextInt(bound);
    }

    private int from1(int most) {
        return random.nextInt(40) == 0 ? ODD[random.nextInt(ODD.length)] : 1 + random.nextInt(most);
    }

    private int somePupil() {
        return below(Math.max(1, model.s.pupils.size()));
    }

    private int someCourse() {
        return below(Math.max(1, model.s.courses.size()));
    }

    private void addRoom() {
        int seats = from1(seatBound);
        same("room(" + seats + ")", real.room(seats), model.room(seats));
    }

    private void addCourse() {
        int least = from1(leastBound);
        int most = random.nextInt(20) == 0 ? from1(40) : least + random.nextInt(Math.max(1, mostBound - leastBound + 1));
        int evening = below(evenings);
        int teacher = below(6);
        int price = below(1001);
        same("course", real.course(evening, teacher, least, most, price), model.course(evening, teacher, least, most, price));
    }

    private void addPupil() {
        int age = below(121);
        int purse = below(3);
        int wants = from1(3);
        same("pupil", real.pupil(age, purse, wants), model.pupil(age, purse, wants));
    }

    private void addWish() {
        int pupil = somePupil();
        int course = someCourse();
        same("wish(" + pupil + "," + course + ")", real.wish(pupil, course), model.wish(pupil, course));
    }

    private void tryOpen() {
        int want = model.open();
        same("open()", real.open(), want);
        if (want > 0) {
            seen[0]++;
        }
    }

    private void tryQuit() {
        int pupil = somePupil();
        int course = someCourse();
        if (random.nextInt(3) != 0 && pupil >= 0 && pupil < model.s.pupils.size() && !model.s.pupils.get(pupil).has.isEmpty()) {
            course = model.s.pupils.get(pupil).has.first();
        }
        int before = model.count(8);
        same("quit(" + pupil + "," + course + ")", bit(real.quit(pupil, course)), bit(model.quit(pupil, course)));
        if (model.count(8) > before + 1) {
            seen[1]++;
        }
    }

    private void tryWeeks() {
        int n = random.nextInt(4) == 0 ? from1(21) : 1;
        int held = model.count(3);
        same("weeks(" + n + ")", real.weeks(n), model.weeks(n));
        if (model.count(3) < held) {
            seen[2]++;
        }
    }

    private String someNumber() {
        String[] few = {"0", "1", "2", "3", "10", "99999", "00002", "500", "" + random.nextInt(3000)};
        return few[random.nextInt(few.length)];
    }

    private String someLine(int tests) {
        StringBuilder line = new StringBuilder();
        for (int i = 0; i < tests; i++) {
            line.append(i == 0 ? "when " : " and ").append(SUBJECTS[random.nextInt(6)]);
            line.append("<>=".charAt(random.nextInt(3))).append(someNumber());
        }
        line.append(tests > 0 ? ":" : "");
        switch (random.nextInt(8)) {
            case 0: case 1: line.append("add ").append(someNumber()); break;
            case 2: line.append("less ").append(someNumber()); break;
            case 3: line.append("part ").append(someNumber()).append("/").append(1 + random.nextInt(9)); break;
            case 4: line.append("least ").append(someNumber()); break;
            case 5: line.append("most ").append(someNumber()); break;
            case 6: line.append(random.nextInt(3) == 0 ? "free" : "part 99999/" + (random.nextInt(8) == 0 ? "0" : "1")); break;
            default: line.append(random.nextInt(3) == 0 ? "end" : "add 99999"); break;
        }
        return line.append(random.nextInt(5) == 0 ? " ;\n" : ";").toString();
    }

    private String someText() {
        StringBuilder text = new StringBuilder();
        int lines = random.nextInt(random.nextInt(4) == 0 ? 20 : 6);
        for (int i = 0; i < lines; i++) {
            text.append(someLine(random.nextInt(3) == 0 ? random.nextInt(random.nextInt(8) == 0 ? 6 : 4) : 0));
        }
        if (random.nextInt(3) == 0) {
            for (int i = random.nextInt(3); i >= 0; i--) {
                int at = random.nextInt(text.length() + 1);
                String piece = PIECES[random.nextInt(PIECES.length)];
                if (random.nextBoolean()) {
                    text.insert(at, piece);
                } else {
                    text.replace(at, Math.min(text.length(), at + 1 + random.nextInt(3)), random.nextBoolean() ? piece : "");
                }
            }
        }
        return text.toString();
    }

    private void giveText(String text) {
        byte[] bytes = new byte[(text.length() + 19) / 20 * 20];
        for (int i = 0; i < text.length(); i++) {
            bytes[i] = (byte) text.charAt(i);
        }
        int before = model.tape.length();
        boolean taken = true;
        for (int i = 0; taken && i < bytes.length; i += 20) {
            int[] n = new int[5];
            for (int j = 0; j < 20; j++) {
                n[j / 4] = n[j / 4] << 8 | bytes[i + j] & 255;
            }
            int want = model.feed(n);
            same("feed", real.feed(n[0], n[1], n[2], n[3], n[4]), want);
            taken = want != -1;
        }
        int length = before + text.length();
        same("end(" + length + ")", real.end(length), model.end(length));
    }

    private void tryFees() {
        if (calls + CALLS_OF_FEES > CALLS) {
            return;
        }
        String text = someText();
        giveText(text);
        if (random.nextInt(8) == 0) {
            return;
        }
        int want = model.fees();
        same("fees() of " + text, real.fees(), want);
        same("fault(0) of " + text, real.fault(0), model.fault(0));
        same("fault(1) of " + text, real.fault(1), model.fault(1));
        seen[want > 0 ? 4 : 5 + model.fault]++;
    }

    private void step() {
        int k = below(4);
        int set = below(1 << model.s.courses.size());
        switch (random.nextInt(24)) {
            case 0: addRoom(); break;
            case 1: case 2: addCourse(); break;
            case 3: case 4: addPupil(); break;
            case 5: case 6: case 7: case 8: case 9: addWish(); break;
            case 10: same("canHold(" + set + ")", bit(real.canHold(set)), bit(model.canHold(set))); break;
            case 11: same("points(" + set + ")", real.points(set), model.points(set)); break;
            case 12: tryOpen(); break;
            case 13: if (random.nextInt(8) == 0) same("close()", real.close(), model.close()); break;
            case 14: case 15: tryWeeks(); break;
            case 16: case 17: case 18: case 19: tryQuit(); break;
            case 20: case 21: if (random.nextInt(3) == 0) tryFees(); break;
            case 22: same("image(" + k + ")", bit(real.image(k)), bit(model.image(k))); break;
            default: if (random.nextInt(6) == 0) same("again(" + k + ")", bit(real.again(k)), bit(model.again(k))); break;
        }
    }

    private void askCourse() {
        int c = someCourse();
        int what = below(11);
        int k = below(5);
        if (random.nextInt(3) != 0) {
            same("tell(" + c + ", " + what + ")", real.tell(c, what), model.tell(c, what));
            return;
        }
        int want = model.waits(c, k);
        same("waits(" + c + ", " + k + ")", real.waits(c, k), want);
        if (want >= 0) {
            seen[3]++;
        }
    }

    private void askPupil() {
        int p = somePupil();
        int c = someCourse();
        int what = below(26);
        if (random.nextBoolean()) {
            same("person(" + p + ", " + what + ")", real.person(p, what), model.person(p, what));
            return;
        }
        int want = model.why(p, c);
        same("why(" + p + ", " + c + ")", real.why(p, c), want);
        if (want >= 0) {
            seen[9 + want]++;
        }
    }

    private void askMoney() {
        int p = somePupil();
        int k = below(Math.max(1, model.s.fees.size() + 1));
        if (random.nextBoolean()) {
            same("bill(" + p + ")", real.bill(p), model.bill(p));
        } else {
            same("line(" + p + ", " + k + ")", real.line(p, k), model.line(p, k));
        }
    }

    private void ask() {
        int what = below(3);
        int k = below(7);
        int number = below(10);
        switch (random.nextInt(8)) {
            case 0: case 1: askCourse(); break;
            case 2: case 3: askPupil(); break;
            case 4: askMoney(); break;
            case 5: same("hours(" + what + ", " + k + ")", real.hours(what, k), model.hours(what, k)); break;
            case 6: same("fault(" + what + ")", real.fault(what), model.fault(what)); break;
            default: same("count(" + number + ")", real.count(number), model.count(number)); break;
        }
    }

    private void prepare() {
        int rooms = 1 + random.nextInt(5);
        int courses = 2 + random.nextInt(seed % 4 == 0 ? 10 : 7);
        int pupils = 2 + random.nextInt(30);
        for (int i = 0; i < rooms; i++) addRoom();
        for (int i = 0; i < courses; i++) addCourse();
        for (int i = 0; i < pupils; i++) addPupil();
        for (int i = 0; i < pupils * (2 + seed % 4); i++) addWish();
    }

    private int play() {
        if (seed % 5 != 0) {
            prepare();
        }
        // Now and then a step makes no call, so the steps are counted, too.
        for (int steps = 0; steps < 4 * CALLS && calls < CALLS && wrong == 0; steps++) {
            if (random.nextBoolean()) {
                step();
            } else {
                ask();
            }
        }
        return wrong;
    }

    public static void main(String[] args) {
        int bad = 0;
        int runs = args.length > 0 ? Integer.parseInt(args[0]) : RUNS;
        for (int seed = 0; seed < runs; seed++) {
            if (new ModelTest(seed).play() != 0) {
                bad++;
            }
        }
        for (int i = 0; i < seen.length; i++) {
            if (seen[i] == 0) {
                System.out.println("the random runs never came to case " + i);
                bad++;
            }
        }
        System.out.println(runs + " random runs, " + bad + " of them wrong; cases " + java.util.Arrays.toString(seen));
        if (bad != 0) {
            System.exit(1);
        }
    }
}
