import java.util.Arrays;

/**
 * A night school: courses, rooms and teachers, pupils who wish for courses, terms that go by week by week,
 * and fees by rules in a language. The promises of the document say what each public method answers.
 */
public final class NightSchool {
    public static final int NONE = -1;

    private static final int TAPE_BYTES = 500;
    private static final int FEED_BYTES = 20;
    private static final int IMAGES = 3;
    private static final int MOST_ROOMS = 5;
    private static final int MOST_COURSES = 10;
    private static final int MOST_PUPILS = 30;
    private static final int MOST_WISHES = 6;
    private static final int MOST_WANTS = 3;
    private static final int MOST_SEATS = 40;
    private static final int MOST_PRICE = 1000;
    private static final int MOST_AGE = 120;
    private static final int MOST_PURSE = 2;
    private static final int MOST_WEEKS = 20;
    private static final int EVENINGS = 5;
    private static final int TEACHERS = 6;
    private static final int ROUNDS = 3;
    private static final int HOURS_A_WEEK = 2;
    private static final int MOST_LINES = 16;
    private static final int MOST_TESTS = 4;
    private static final int MOST_DIGITS = 5;
    private static final long MOST_SUM = 1000000000L;
    private static final int NO_SUCH_LINE = -2000000000;
    // Each move is worth a point at least to one of 30 pupils, who can have 15 points: 450 moves are the most.
    private static final int MOST_MOVES = 10000;

    private static final int HAS_IT = 0;
    private static final int NOT_WISHED = 1;
    private static final int NOT_HELD = 2;
    private static final int WISHES_OTHER_MORE = 3;
    private static final int HAS_ENOUGH = 4;
    private static final int NO_PLACE = 5;

    private static final int NO_FAULT = 0;
    private static final int FAULT_TEXT = 1;
    private static final int FAULT_ZERO = 2;
    private static final int FAULT_TOO_MANY = 3;

    // Kinds of tokens; a sign's kind is its own byte.
    private static final int TAPE_END = 0;
    private static final int WRONG = 1;
    private static final int NUMBER = 2;
    private static final int WHEN = 201;
    private static final int AND = 202;
    private static final int AGE = 203;
    private static final int PURSE = 204;
    private static final int COURSES = 205;
    private static final int SUM = 206;
    private static final int FIRST = 207;
    private static final int WEEK = 208;
    private static final int ADD = 209;
    private static final int LESS = 210;
    private static final int PART = 211;
    private static final int LEAST = 212;
    private static final int MOST = 213;
    private static final int FREE = 214;
    private static final int END = 215;

    private final byte[] tape = new byte[TAPE_BYTES];
    private int tapeLength;
    private final FeeReader reader = new FeeReader();
    private final Planner planner = new Planner();
    private final School now = new School();
    private final School[] images = new School[IMAGES];

    public NightSchool() {
    }

    public int feed(int a, int b, int c, int d, int e) {
        if (tapeLength + FEED_BYTES > TAPE_BYTES) {
            return NONE;
        }
        putOnTape(a);
        putOnTape(b);
        putOnTape(c);
        putOnTape(d);
        putOnTape(e);
        return tapeLength;
    }

    public int end(int n) {
        if (n < 0 || n > tapeLength) {
            return NONE;
        }
        tapeLength = n;
        return n;
    }

    public int fees() {
        boolean good = reader.readText(tape, tapeLength);
        tapeLength = 0;
        if (!good) {
            return NONE;
        }
        now.fees.copyFrom(reader.draft);
        return now.fees.count;
    }

    public int fault(int what) {
        switch (what) {
            case 0:
                return reader.fault;
            case 1:
                return reader.faultPlace;
            default:
                return NONE;
        }
    }

    public int room(int seats) {
        Rooms rooms = now.rooms;
        if (now.term.isOn() || rooms.count >= MOST_ROOMS || !isWithin(seats, 1, MOST_SEATS)) {
            return NONE;
        }
        int number = rooms.count;
        rooms.seats[number] = seats;
        rooms.count = number + 1;
        return number;
    }

    public int course(int evening, int teacher, int least, int most, int price) {
        Courses courses = now.courses;
        if (now.term.isOn() || courses.count >= MOST_COURSES) {
            return NONE;
        }
        if (!isWithin(evening, 0, EVENINGS - 1) || !isWithin(teacher, 0, TEACHERS - 1)
                || !isWithin(most, 1, MOST_SEATS) || !isWithin(least, 1, most) || !isWithin(price, 0, MOST_PRICE)) {
            return NONE;
        }
        int number = courses.count;
        courses.evening[number] = evening;
        courses.teacher[number] = teacher;
        courses.least[number] = least;
        courses.most[number] = most;
        courses.price[number] = price;
        courses.count = number + 1;
        return number;
    }

    public int pupil(int age, int purse, int wants) {
        Pupils pupils = now.pupils;
        if (now.term.isOn() || pupils.count >= MOST_PUPILS) {
            return NONE;
        }
        if (!isWithin(age, 0, MOST_AGE) || !isWithin(purse, 0, MOST_PURSE) || !isWithin(wants, 1, MOST_WANTS)) {
            return NONE;
        }
        int number = pupils.count;
        pupils.age[number] = age;
        pupils.purse[number] = purse;
        pupils.wants[number] = wants;
        pupils.count = number + 1;
        return number;
    }

    public int wish(int pupil, int course) {
        if (!isPupil(pupil) || !isCourse(course)) {
            return NONE;
        }
        Pupils pupils = now.pupils;
        if (pupils.wishCount[pupil] >= MOST_WISHES || pupils.rankOf(pupil, course) != NONE) {
            return NONE;
        }
        int rank = pupils.addWish(pupil, course);
        now.moveUp();
        return rank;
    }

    public boolean canHold(int set) {
        return furnishSet(set);
    }

    public int points(int set) {
        if (!furnishSet(set)) {
            return NONE;
        }
        return planner.placePupils(now);
    }

    public int open() {
        if (now.term.isOn()) {
            return NONE;
        }
        int won = planner.planBest(now);
        now.seating.copyFrom(planner.trial);
        now.term.beginAnew(0);
        now.moveUp();
        return won;
    }

    public int close() {
        if (!now.term.isOn()) {
            return NONE;
        }
        int weeksGone = now.term.week;
        now.seating.clear();
        now.term.beginAnew(NONE);
        return weeksGone;
    }

    public int weeks(int n) {
        if (!now.term.isOn() || !isWithin(n, 1, MOST_WEEKS)) {
            return NONE;
        }
        for (int i = 0; i < n; i++) {
            now.passWeek();
        }
        return now.term.week;
    }

    public boolean quit(int pupil, int course) {
        if (!isPupil(pupil) || !isCourse(course) || !now.seating.hasCourse(pupil, course)) {
            return false;
        }
        now.seating.takeAway(pupil, course);
        now.pupils.dropWish(pupil, course);
        now.moveUp();
        return true;
    }

    public int tell(int course, int what) {
        if (!isCourse(course)) {
            return NONE;
        }
        switch (what) {
            case 0:
                return now.courses.evening[course];
            case 1:
                return now.courses.teacher[course];
            case 2:
                return now.courses.least[course];
            case 3:
                return now.courses.most[course];
            case 4:
                return now.courses.price[course];
            case 5:
                return now.seating.isHeld(course) ? 1 : 0;
            case 6:
                return now.seating.roomOf[course];
            case 7:
                return now.seating.places[course];
            case 8:
                return now.seating.taken[course];
            case 9:
                return now.term.weeksHeld[course];
            default:
                return NONE;
        }
    }

    public int person(int pupil, int what) {
        if (!isPupil(pupil)) {
            return NONE;
        }
        if (what >= 20 && what < 20 + EVENINGS) {
            return now.courseOn(pupil, what - 20);
        }
        if (what >= 10 && what < 10 + now.pupils.wishCount[pupil]) {
            return now.pupils.courseOfRank(pupil, what - 10);
        }
        switch (what) {
            case 0:
                return now.pupils.age[pupil];
            case 1:
                return now.pupils.purse[pupil];
            case 2:
                return now.pupils.wants[pupil];
            case 3:
                return now.seating.has[pupil];
            case 4:
                return now.pupils.wishCount[pupil];
            case 5:
                return now.pointsOf(pupil);
            case 6:
                return now.term.moves[pupil];
            default:
                return NONE;
        }
    }

    public int why(int pupil, int course) {
        return isPupil(pupil) && isCourse(course) ? now.reasonFor(pupil, course) : NONE;
    }

    public int hours(int what, int k) {
        if (what == 0 && isWithin(k, 0, TEACHERS - 1)) {
            return now.term.teacherHours[k];
        }
        if (what == 1 && isWithin(k, 0, now.rooms.count - 1)) {
            return now.term.roomHours[k];
        }
        return NONE;
    }

    public int bill(int pupil) {
        return isPupil(pupil) ? now.sumBehind(pupil, now.fees.count) : NONE;
    }

    public int line(int pupil, int k) {
        if (!isPupil(pupil) || !isWithin(k, 0, now.fees.count - 1)) {
            return NO_SUCH_LINE;
        }
        return now.sumBehind(pupil, k + 1) - now.sumBehind(pupil, k);
    }

    public int count(int what) {
        switch (what) {
            case 0:
                return now.rooms.count;
            case 1:
                return now.courses.count;
            case 2:
                return now.pupils.count;
            case 3:
                return Integer.bitCount(now.seating.held);
            case 4:
                return now.placesHad();
            case 5:
                return now.pointsInAll();
            case 6:
                return now.term.week;
            case 7:
                return now.fees.count;
            case 8:
                return now.term.movesInAll;
            default:
                return NONE;
        }
    }

    public int waits(int course, int k) {
        if (!isCourse(course) || k < 0) {
            return NONE;
        }
        int before = 0;
        for (int pupil = 0; pupil < now.pupils.count; pupil++) {
            if (now.reasonFor(pupil, course) == NO_PLACE) {
                if (before == k) {
                    return pupil;
                }
                before++;
            }
        }
        return NONE;
    }

    public boolean image(int k) {
        if (!isWithin(k, 0, IMAGES - 1)) {
            return false;
        }
        if (images[k] == null) {
            images[k] = new School();
        }
        images[k].copyFrom(now);
        return true;
    }

    public boolean again(int k) {
        if (!isWithin(k, 0, IMAGES - 1) || images[k] == null) {
            return false;
        }
        now.copyFrom(images[k]);
        return true;
    }

    private static boolean isWithin(int value, int low, int high) {
        return value >= low && value <= high;
    }

    private boolean isPupil(int number) {
        return isWithin(number, 0, now.pupils.count - 1);
    }

    private boolean isCourse(int number) {
        return isWithin(number, 0, now.courses.count - 1);
    }

    /** The caller has looked that four more bytes find room. */
    private void putOnTape(int number) {
        for (int shift = 24; shift >= 0; shift -= 8) {
            tape[tapeLength] = (byte) (number >>> shift);
            tapeLength++;
        }
    }

    private boolean furnishSet(int set) {
        if ((set >>> now.courses.count) != 0) {
            return false;
        }
        planner.prepare(now);
        return planner.furnish(now, set);
    }

    /** The ROOMS. */
    private static final class Rooms {
        int count;
        final int[] seats = new int[MOST_ROOMS];

        void copyFrom(Rooms other) {
            count = other.count;
            System.arraycopy(other.seats, 0, seats, 0, MOST_ROOMS);
        }
    }

    /** The COURSES, as they were announced. */
    private static final class Courses {
        int count;
        final int[] evening = new int[MOST_COURSES];
        final int[] teacher = new int[MOST_COURSES];
        final int[] least = new int[MOST_COURSES];
        final int[] most = new int[MOST_COURSES];
        final int[] price = new int[MOST_COURSES];

        void copyFrom(Courses other) {
            count = other.count;
            System.arraycopy(other.evening, 0, evening, 0, MOST_COURSES);
            System.arraycopy(other.teacher, 0, teacher, 0, MOST_COURSES);
            System.arraycopy(other.least, 0, least, 0, MOST_COURSES);
            System.arraycopy(other.most, 0, most, 0, MOST_COURSES);
            System.arraycopy(other.price, 0, price, 0, MOST_COURSES);
        }
    }

    /** The PUPILS and their WISHES. */
    private static final class Pupils {
        int count;
        final int[] age = new int[MOST_PUPILS];
        final int[] purse = new int[MOST_PUPILS];
        final int[] wants = new int[MOST_PUPILS];
        final int[] wishCount = new int[MOST_PUPILS];
        final int[] wishes = new int[MOST_PUPILS * MOST_WISHES];

        void copyFrom(Pupils other) {
            count = other.count;
            System.arraycopy(other.age, 0, age, 0, MOST_PUPILS);
            System.arraycopy(other.purse, 0, purse, 0, MOST_PUPILS);
            System.arraycopy(other.wants, 0, wants, 0, MOST_PUPILS);
            System.arraycopy(other.wishCount, 0, wishCount, 0, MOST_PUPILS);
            System.arraycopy(other.wishes, 0, wishes, 0, MOST_PUPILS * MOST_WISHES);
        }

        int courseOfRank(int pupil, int rank) {
            return wishes[pupil * MOST_WISHES + rank];
        }

        int rankOf(int pupil, int course) {
            for (int rank = 0; rank < wishCount[pupil]; rank++) {
                if (courseOfRank(pupil, rank) == course) {
                    return rank;
                }
            }
            return NONE;
        }

        /** The caller has looked that there are fewer than MOST_WISHES. */
        int addWish(int pupil, int course) {
            int rank = wishCount[pupil];
            wishes[pupil * MOST_WISHES + rank] = course;
            wishCount[pupil] = rank + 1;
            return rank;
        }

        void dropWish(int pupil, int course) {
            int rank = rankOf(pupil, course);
            if (rank == NONE) {
                return;
            }
            int last = wishCount[pupil] - 1;
            for (int r = rank; r < last; r++) {
                wishes[pupil * MOST_WISHES + r] = courseOfRank(pupil, r + 1);
            }
            wishCount[pupil] = last;
        }
    }

    /** Which COURSES are held, where, and who has them. */
    private static final class Seating {
        int held;
        final int[] roomOf = new int[MOST_COURSES];
        final int[] places = new int[MOST_COURSES];
        final int[] taken = new int[MOST_COURSES];
        final int[] has = new int[MOST_PUPILS];

        Seating() {
            Arrays.fill(roomOf, NONE);
        }

        void clear() {
            held = 0;
            Arrays.fill(roomOf, NONE);
            Arrays.fill(places, 0);
            Arrays.fill(taken, 0);
            Arrays.fill(has, 0);
        }

        void copyFrom(Seating other) {
            held = other.held;
            System.arraycopy(other.roomOf, 0, roomOf, 0, MOST_COURSES);
            System.arraycopy(other.places, 0, places, 0, MOST_COURSES);
            System.arraycopy(other.taken, 0, taken, 0, MOST_COURSES);
            System.arraycopy(other.has, 0, has, 0, MOST_PUPILS);
        }

        boolean isHeld(int course) {
            return ((held >> course) & 1) != 0;
        }

        boolean hasCourse(int pupil, int course) {
            return ((has[pupil] >> course) & 1) != 0;
        }

        int coursesOf(int pupil) {
            return Integer.bitCount(has[pupil]);
        }

        boolean hasPlaceLeft(int course) {
            return taken[course] < places[course];
        }

        void give(int pupil, int course) {
            has[pupil] |= 1 << course;
            taken[course]++;
        }

        void takeAway(int pupil, int course) {
            has[pupil] &= ~(1 << course);
            taken[course]--;
        }

        void cancel(int course) {
            int others = ~(1 << course);
            held &= others;
            roomOf[course] = NONE;
            places[course] = 0;
            taken[course] = 0;
            for (int pupil = 0; pupil < MOST_PUPILS; pupil++) {
                has[pupil] &= others;
            }
        }
    }

    /** What a TERM counts; its week is NONE while there is no TERM. */
    private static final class Term {
        int week = NONE;
        int movesInAll;
        final int[] moves = new int[MOST_PUPILS];
        final int[] weeksHeld = new int[MOST_COURSES];
        final int[] teacherHours = new int[TEACHERS];
        final int[] roomHours = new int[MOST_ROOMS];

        boolean isOn() {
            return week != NONE;
        }

        void beginAnew(int firstWeek) {
            week = firstWeek;
            movesInAll = 0;
            Arrays.fill(moves, 0);
            Arrays.fill(weeksHeld, 0);
            Arrays.fill(teacherHours, 0);
            Arrays.fill(roomHours, 0);
        }

        void copyFrom(Term other) {
            week = other.week;
            movesInAll = other.movesInAll;
            System.arraycopy(other.moves, 0, moves, 0, MOST_PUPILS);
            System.arraycopy(other.weeksHeld, 0, weeksHeld, 0, MOST_COURSES);
            System.arraycopy(other.teacherHours, 0, teacherHours, 0, TEACHERS);
            System.arraycopy(other.roomHours, 0, roomHours, 0, MOST_ROOMS);
        }
    }

    /** The LINES of the FEES: each has an act with up to two numbers, and up to MOST_TESTS tests. */
    private static final class Fees {
        int count;
        final int[] act = new int[MOST_LINES];
        final int[] number = new int[MOST_LINES];
        final int[] divisor = new int[MOST_LINES];
        final int[] testCount = new int[MOST_LINES];
        final int[] subject = new int[MOST_LINES * MOST_TESTS];
        final int[] sign = new int[MOST_LINES * MOST_TESTS];
        final int[] bound = new int[MOST_LINES * MOST_TESTS];

        void copyFrom(Fees other) {
            count = other.count;
            System.arraycopy(other.act, 0, act, 0, MOST_LINES);
            System.arraycopy(other.number, 0, number, 0, MOST_LINES);
            System.arraycopy(other.divisor, 0, divisor, 0, MOST_LINES);
            System.arraycopy(other.testCount, 0, testCount, 0, MOST_LINES);
            System.arraycopy(other.subject, 0, subject, 0, MOST_LINES * MOST_TESTS);
            System.arraycopy(other.sign, 0, sign, 0, MOST_LINES * MOST_TESTS);
            System.arraycopy(other.bound, 0, bound, 0, MOST_LINES * MOST_TESTS);
        }

        /** What is one too many is left out: its text is a FAULT, but the rest of it is still read. */
        void setTest(int line, int test, int testSubject, int testSign, int testBound) {
            if (line >= MOST_LINES || test >= MOST_TESTS) {
                return;
            }
            int slot = line * MOST_TESTS + test;
            subject[slot] = testSubject;
            sign[slot] = testSign;
            bound[slot] = testBound;
            testCount[line] = test + 1;
        }

        void setAct(int line, int kind, int firstNumber, int secondNumber) {
            if (line >= MOST_LINES) {
                return;
            }
            act[line] = kind;
            number[line] = firstNumber;
            divisor[line] = secondNumber;
            count = line + 1;
        }

        void startLine(int line) {
            if (line < MOST_LINES) {
                testCount[line] = 0;
            }
        }

        boolean testHolds(int slot, long value) {
            switch (sign[slot]) {
                case '<':
                    return value < bound[slot];
                case '>':
                    return value > bound[slot];
                default:
                    return value == bound[slot];
            }
        }

        long sumAfterAct(int line, long sum) {
            switch (act[line]) {
                case ADD:
                    return Math.min(MOST_SUM, sum + number[line]);
                case LESS:
                    return Math.max(0L, sum - number[line]);
                case PART:
                    return divisor[line] == 0 ? sum : Math.min(MOST_SUM, sum * number[line] / divisor[line]);
                case LEAST:
                    return Math.max(sum, number[line]);
                case MOST:
                    return Math.min(sum, number[line]);
                case FREE:
                    return 0L;
                default:
                    return sum;
            }
        }
    }

    /** All that an image keeps. */
    private static final class School {
        final Rooms rooms = new Rooms();
        final Courses courses = new Courses();
        final Pupils pupils = new Pupils();
        final Seating seating = new Seating();
        final Term term = new Term();
        final Fees fees = new Fees();

        void copyFrom(School other) {
            rooms.copyFrom(other.rooms);
            courses.copyFrom(other.courses);
            pupils.copyFrom(other.pupils);
            seating.copyFrom(other.seating);
            term.copyFrom(other.term);
            fees.copyFrom(other.fees);
        }

        int courseOn(int pupil, int evening) {
            for (int course = 0; course < courses.count; course++) {
                if (courses.evening[course] == evening && seating.hasCourse(pupil, course)) {
                    return course;
                }
            }
            return NONE;
        }

        int reasonFor(int pupil, int course) {
            if (seating.hasCourse(pupil, course)) {
                return HAS_IT;
            }
            int rank = pupils.rankOf(pupil, course);
            if (rank == NONE) {
                return NOT_WISHED;
            }
            if (!seating.isHeld(course)) {
                return NOT_HELD;
            }
            int other = courseOn(pupil, courses.evening[course]);
            if (other != NONE) {
                return pupils.rankOf(pupil, other) < rank ? WISHES_OTHER_MORE : NO_PLACE;
            }
            return seating.coursesOf(pupil) >= pupils.wants[pupil] ? HAS_ENOUGH : NO_PLACE;
        }

        void moveUp() {
            boolean moved = true;
            for (int n = 0; moved && n < MOST_MOVES; n++) {
                moved = moveFirstPupil();
            }
        }

        private boolean moveFirstPupil() {
            for (int pupil = 0; pupil < pupils.count; pupil++) {
                for (int rank = 0; rank < pupils.wishCount[pupil]; rank++) {
                    int course = pupils.courseOfRank(pupil, rank);
                    // NO_PLACE is the last reason: with a place left, nothing keeps the pupil from the course.
                    if (seating.hasPlaceLeft(course) && reasonFor(pupil, course) == NO_PLACE) {
                        moveInto(pupil, course);
                        return true;
                    }
                }
            }
            return false;
        }

        private void moveInto(int pupil, int course) {
            int other = courseOn(pupil, courses.evening[course]);
            if (other != NONE) {
                seating.takeAway(pupil, other);
            }
            seating.give(pupil, course);
            term.moves[pupil]++;
            term.movesInAll++;
        }

        void passWeek() {
            term.week++;
            for (int course = 0; course < courses.count; course++) {
                if (seating.isHeld(course)) {
                    countWeekOf(course);
                }
            }
            for (int course = 0; course < courses.count; course++) {
                if (seating.isHeld(course) && 2 * seating.taken[course] < courses.least[course]) {
                    seating.cancel(course);
                }
            }
            moveUp();
        }

        private void countWeekOf(int course) {
            term.weeksHeld[course]++;
            term.teacherHours[courses.teacher[course]] += HOURS_A_WEEK;
            int room = seating.roomOf[course];
            if (room != NONE) {
                term.roomHours[room] += HOURS_A_WEEK;
            }
        }

        int pointsOf(int pupil) {
            int won = 0;
            for (int rank = 0; rank < pupils.wishCount[pupil]; rank++) {
                if (seating.hasCourse(pupil, pupils.courseOfRank(pupil, rank))) {
                    won += MOST_WISHES - rank;
                }
            }
            return won;
        }

        int pointsInAll() {
            int won = 0;
            for (int pupil = 0; pupil < pupils.count; pupil++) {
                won += pointsOf(pupil);
            }
            return won;
        }

        int placesHad() {
            int had = 0;
            for (int course = 0; course < courses.count; course++) {
                had += seating.taken[course];
            }
            return had;
        }

        /** The SUM of a pupil's BILL behind the first so many LINES. */
        int sumBehind(int pupil, int lines) {
            long sum = pricesOf(pupil);
            for (int line = 0; line < lines; line++) {
                if (allTestsHold(pupil, line, sum)) {
                    if (fees.act[line] == END) {
                        break;
                    }
                    sum = fees.sumAfterAct(line, sum);
                }
            }
            return (int) sum;
        }

        private long pricesOf(int pupil) {
            long sum = 0;
            for (int course = 0; course < courses.count; course++) {
                if (seating.hasCourse(pupil, course)) {
                    sum += courses.price[course];
                }
            }
            return sum;
        }

        private boolean allTestsHold(int pupil, int line, long sum) {
            for (int test = 0; test < fees.testCount[line]; test++) {
                int slot = line * MOST_TESTS + test;
                if (!fees.testHolds(slot, valueOf(fees.subject[slot], pupil, sum))) {
                    return false;
                }
            }
            return true;
        }

        private long valueOf(int subject, int pupil, long sum) {
            switch (subject) {
                case AGE:
                    return pupils.age[pupil];
                case PURSE:
                    return pupils.purse[pupil];
                case COURSES:
                    return seating.coursesOf(pupil);
                case FIRST:
                    return hasFirstWish(pupil) ? 1 : 0;
                case WEEK:
                    return term.isOn() ? term.week : 0;
                default:
                    return sum;
            }
        }

        private boolean hasFirstWish(int pupil) {
            return pupils.wishCount[pupil] > 0 && seating.hasCourse(pupil, pupils.courseOfRank(pupil, 0));
        }
    }

    /**
     * Tries sets of COURSES: prepare once, then furnish a set, then place the pupils in it.
     * Its rows are made once, since BEST asks for up to 1024 sets.
     */
    private static final class Planner {
        final Seating trial = new Seating();
        final int[] roomOrder = new int[MOST_ROOMS];
        final int[] courseOrder = new int[MOST_COURSES];
        final int[] roomsUsed = new int[EVENINGS];
        final int[] teachersBusy = new int[EVENINGS];
        final int[] coursesOfEvening = new int[EVENINGS];
        final int[] wished = new int[MOST_PUPILS];
        final int[] barred = new int[MOST_PUPILS];
        int withPlace;
        int hopeless;

        void prepare(School school) {
            orderByGreatest(roomOrder, school.rooms.seats, school.rooms.count);
            orderByGreatest(courseOrder, school.courses.most, school.courses.count);
            Arrays.fill(coursesOfEvening, 0);
            for (int course = 0; course < school.courses.count; course++) {
                coursesOfEvening[school.courses.evening[course]] |= 1 << course;
            }
            for (int pupil = 0; pupil < school.pupils.count; pupil++) {
                wished[pupil] = 0;
                for (int rank = 0; rank < school.pupils.wishCount[pupil]; rank++) {
                    wished[pupil] |= 1 << school.pupils.courseOfRank(pupil, rank);
                }
            }
        }

        /** Equal ones stay in the order of their numbers. */
        private static void orderByGreatest(int[] order, int[] size, int count) {
            for (int number = 0; number < count; number++) {
                int spot = number;
                for (; spot > 0 && size[order[spot - 1]] < size[number]; spot--) {
                    order[spot] = order[spot - 1];
                }
                order[spot] = number;
            }
        }

        /** Gives the courses of a set their rooms: whether it CAN BE HELD. */
        boolean furnish(School school, int set) {
            trial.clear();
            trial.held = set;
            Arrays.fill(roomsUsed, 0);
            Arrays.fill(teachersBusy, 0);
            for (int n = 0; n < school.courses.count; n++) {
                int course = courseOrder[n];
                if (trial.isHeld(course) && !furnishCourse(school, course)) {
                    return false;
                }
            }
            return true;
        }

        private boolean furnishCourse(School school, int course) {
            int evening = school.courses.evening[course];
            int teacher = 1 << school.courses.teacher[course];
            int turn = roomsUsed[evening];
            if ((teachersBusy[evening] & teacher) != 0 || turn >= school.rooms.count) {
                return false;
            }
            teachersBusy[evening] |= teacher;
            roomsUsed[evening] = turn + 1;
            int room = roomOrder[turn];
            trial.roomOf[course] = room;
            trial.places[course] = Math.min(school.courses.most[course], school.rooms.seats[room]);
            return trial.places[course] >= school.courses.least[course];
        }

        /** PLACING, for the set that was furnished last: its POINTS, NONE if it is not LAWFUL. */
        int placePupils(School school) {
            withPlace = trial.held;
            Arrays.fill(barred, 0);
            int won = 0;
            int last = school.pupils.count - 1;
            for (int round = 0; round < ROUNDS; round++) {
                for (int n = 0; n <= last; n++) {
                    won += placePupil(school, round == 1 ? last - n : n);
                }
            }
            return isLawful(school) ? won : NONE;
        }

        private int placePupil(School school, int pupil) {
            int free = withPlace & ~barred[pupil];
            if ((free & wished[pupil]) == 0 || trial.coursesOf(pupil) >= school.pupils.wants[pupil]) {
                return 0;
            }
            for (int rank = 0; rank < school.pupils.wishCount[pupil]; rank++) {
                int course = school.pupils.courseOfRank(pupil, rank);
                if (((free >> course) & 1) != 0) {
                    givePlace(pupil, course, school.courses.evening[course]);
                    return MOST_WISHES - rank;
                }
            }
            return 0;
        }

        private void givePlace(int pupil, int course, int evening) {
            trial.give(pupil, course);
            barred[pupil] |= coursesOfEvening[evening];
            if (!trial.hasPlaceLeft(course)) {
                withPlace &= ~(1 << course);
            }
        }

        private boolean isLawful(School school) {
            for (int course = 0; course < school.courses.count; course++) {
                if (trial.isHeld(course) && trial.taken[course] < school.courses.least[course]) {
                    return false;
                }
            }
            return true;
        }

        /** Leaves BEST and its PLACING in the trial: its POINTS. */
        int planBest(School school) {
            prepare(school);
            findHopeless(school);
            int best = 0;
            int bestWon = 0;
            int sets = 1 << school.courses.count;
            for (int set = 1; set < sets; set++) {
                if ((set & hopeless) == 0 && furnish(school, set)) {
                    int won = placePupils(school);
                    if (won > bestWon) {
                        best = set;
                        bestWon = won;
                    }
                }
            }
            furnish(school, best);
            placePupils(school);
            return bestWon;
        }

        /** A course that fewer than its LEAST wish for is in no LAWFUL set: most sets need no trial then. */
        private void findHopeless(School school) {
            hopeless = 0;
            for (int course = 0; course < school.courses.count; course++) {
                int wishers = 0;
                for (int pupil = 0; pupil < school.pupils.count; pupil++) {
                    wishers += (wished[pupil] >> course) & 1;
                }
                if (wishers < school.courses.least[course]) {
                    hopeless |= 1 << course;
                }
            }
        }
    }

    /** The TOKENS of a tape; the last one is always TAPE_END. */
    private static final class Tokens {
        int count;
        final int[] kind = new int[TAPE_BYTES + 1];
        final int[] place = new int[TAPE_BYTES + 1];
        final int[] number = new int[TAPE_BYTES + 1];

        void scan(byte[] bytes, int length) {
            count = 0;
            for (int at = 0; at < length; at++) {
                if (isDigit(bytes[at])) {
                    if (at == 0 || !isDigit(bytes[at - 1])) {
                        addNumber(bytes, at, length);
                    }
                } else if (isLetter(bytes[at])) {
                    if (at == 0 || !isLetter(bytes[at - 1])) {
                        addWord(bytes, at, length);
                    }
                } else if (bytes[at] != ' ' && bytes[at] != '\n') {
                    addToken(isSign(bytes[at]) ? bytes[at] : WRONG, at, 0);
                }
            }
            addToken(TAPE_END, length, 0);
        }

        private static boolean isDigit(byte b) {
            return b >= '0' && b <= '9';
        }

        private static boolean isLetter(byte b) {
            return b >= 'a' && b <= 'z';
        }

        private static boolean isSign(byte b) {
            return b == ':' || b == ';' || b == '/' || b == '<' || b == '>' || b == '=';
        }

        private void addToken(int tokenKind, int tokenPlace, int tokenNumber) {
            if (count < kind.length) {
                kind[count] = tokenKind;
                place[count] = tokenPlace;
                number[count] = tokenNumber;
                count++;
            }
        }

        private void addNumber(byte[] bytes, int from, int length) {
            int value = 0;
            int to = from;
            for (; to < length && isDigit(bytes[to]); to++) {
                // A longer row is no token, so its value is of no use.
                if (to - from < MOST_DIGITS) {
                    value = value * 10 + (bytes[to] - '0');
                }
            }
            addToken(to - from <= MOST_DIGITS ? NUMBER : WRONG, from, value);
        }

        private void addWord(byte[] bytes, int from, int length) {
            int to = from;
            while (to < length && isLetter(bytes[to])) {
                to++;
            }
            int found = WRONG;
            for (int word = WHEN; word <= END; word++) {
                if (isSameWord(bytes, from, to, spelling(word))) {
                    found = word;
                }
            }
            addToken(found, from, 0);
        }

        private static boolean isSameWord(byte[] bytes, int from, int to, String word) {
            if (to - from != word.length()) {
                return false;
            }
            for (int at = from; at < to; at++) {
                if (bytes[at] != word.charAt(at - from)) {
                    return false;
                }
            }
            return true;
        }

        private static String spelling(int word) {
            switch (word) {
                case WHEN:
                    return "when";
                case AND:
                    return "and";
                case AGE:
                    return "age";
                case PURSE:
                    return "purse";
                case COURSES:
                    return "courses";
                case SUM:
                    return "sum";
                case FIRST:
                    return "first";
                case WEEK:
                    return "week";
                case ADD:
                    return "add";
                case LESS:
                    return "less";
                case PART:
                    return "part";
                case LEAST:
                    return "least";
                case MOST:
                    return "most";
                case FREE:
                    return "free";
                default:
                    return "end";
            }
        }
    }

    /** Reads a TEXT of FEES into a draft, so that a FAULT leaves the FEES that hold as they are. */
    private static final class FeeReader {
        final Tokens tokens = new Tokens();
        final Fees draft = new Fees();
        int fault = NO_FAULT;
        int faultPlace = NONE;
        int at;

        boolean readText(byte[] bytes, int length) {
            tokens.scan(bytes, length);
            fault = NO_FAULT;
            faultPlace = NONE;
            at = 0;
            draft.count = 0;
            boolean good = true;
            for (int line = 0; good && line < TAPE_BYTES && kindHere() != TAPE_END; line++) {
                good = readLine(line);
            }
            if (!good) {
                // A FAULT of the text itself goes before those that were noted on the way to it.
                fault = FAULT_TEXT;
                faultPlace = placeHere();
            }
            return fault == NO_FAULT;
        }

        /** Like all that reads: false, and it stays at the token with which no text goes on. */
        private boolean readLine(int line) {
            if (line == MOST_LINES) {
                noteFault(FAULT_TOO_MANY);
            }
            draft.startLine(line);
            if (pass(WHEN) && !readTests(line)) {
                return false;
            }
            return readAct(line) && pass(';');
        }

        private boolean readTests(int line) {
            boolean more = true;
            for (int test = 0; more && test < TAPE_BYTES; test++) {
                if (test == MOST_TESTS) {
                    noteFault(FAULT_TOO_MANY);
                }
                if (!readTest(line, test)) {
                    return false;
                }
                more = pass(AND);
            }
            return pass(':');
        }

        private boolean readTest(int line, int test) {
            int subject = kindHere();
            if (subject < AGE || subject > WEEK) {
                return false;
            }
            at++;
            int sign = kindHere();
            if (sign != '<' && sign != '>' && sign != '=') {
                return false;
            }
            at++;
            int bound = numberHere();
            if (!pass(NUMBER)) {
                return false;
            }
            draft.setTest(line, test, subject, sign, bound);
            return true;
        }

        private boolean readAct(int line) {
            int act = kindHere();
            if (act < ADD || act > END) {
                return false;
            }
            at++;
            int first = 0;
            int second = 0;
            if (act != FREE && act != END) {
                first = numberHere();
                if (!pass(NUMBER)) {
                    return false;
                }
            }
            if (act == PART) {
                if (!pass('/')) {
                    return false;
                }
                second = numberHere();
                if (kindHere() == NUMBER && second == 0) {
                    noteFault(FAULT_ZERO);
                }
                if (!pass(NUMBER)) {
                    return false;
                }
            }
            draft.setAct(line, act, first, second);
            return true;
        }

        private int kindHere() {
            return at < tokens.count ? tokens.kind[at] : TAPE_END;
        }

        private int numberHere() {
            return at < tokens.count ? tokens.number[at] : 0;
        }

        private int placeHere() {
            return at < tokens.count ? tokens.place[at] : NONE;
        }

        private boolean pass(int kind) {
            if (kindHere() != kind) {
                return false;
            }
            at++;
            return true;
        }

        private void noteFault(int which) {
            if (fault == NO_FAULT) {
                fault = which;
                faultPlace = placeHere();
            }
        }
    }
}
