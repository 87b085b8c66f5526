import java.util.ArrayList;
import java.util.Comparator;
import java.util.LinkedHashMap;
import java.util.List;
import java.util.Map;
import java.util.TreeSet;
import java.util.regex.Matcher;
import java.util.regex.Pattern;

/**
 * The document once more, written as plainly as it can be and by other means than the program
 * (lists, maps, regular expressions, no short cuts), so that runs of both can be compared.
 */
final class SchoolModel {
    record Course(int evening, int teacher, int least, int most, int price) { }

    record Test(String subject, char sign, int number) { }

    record Line(List<Test> tests, String act, int a, int b) { }

    static final class Pupil {
        int age;
        int purse;
        int wants;
        List<Integer> wishes = new ArrayList<>();
        TreeSet<Integer> has = new TreeSet<>();
        int moves;

        Pupil copy() {
            Pupil p = new Pupil();
            p.age = age;
            p.purse = purse;
            p.wants = wants;
            p.wishes = new ArrayList<>(wishes);
            p.has = new TreeSet<>(has);
            p.moves = moves;
            return p;
        }
    }

    static final class State {
        List<Integer> rooms = new ArrayList<>();
        List<Course> courses = new ArrayList<>();
        List<Pupil> pupils = new ArrayList<>();
        List<Line> fees = new ArrayList<>();
        boolean term;
        int week;
        Map<Integer, Integer> roomOfHeld = new LinkedHashMap<>();
        Map<Integer, Integer> weeksHeld = new LinkedHashMap<>();
        Map<Integer, Integer> teacherHours = new LinkedHashMap<>();
        Map<Integer, Integer> roomHours = new LinkedHashMap<>();

        State copy() {
            State s = new State();
            s.rooms = new ArrayList<>(rooms);
            s.courses = new ArrayList<>(courses);
            for (Pupil p : pupils) {
                s.pupils.add(p.copy());
            }
            s.fees = fees;
            s.term = term;
            s.week = week;
            s.roomOfHeld = new LinkedHashMap<>(roomOfHeld);
            s.weeksHeld = new LinkedHashMap<>(weeksHeld);
            s.teacherHours = new LinkedHashMap<>(teacherHours);
            s.roomHours = new LinkedHashMap<>(roomHours);
            return s;
        }
    }

    private static final Pattern TOKEN = Pattern.compile("[a-z]+|[0-9]+|[^a-z0-9 \\n]", Pattern.DOTALL);
    // One letter a token: w when, a and, s subject, c comparison, n number, o act with one number, p part, z act without.
    private static final Pattern TEXT = Pattern.compile("((wscn(ascn)*:)?(on|pn/n|z);)*");

    State s = new State();
    StringBuilder tape = new StringBuilder();
    int fault = 0;
    int faultPlace = -1;
    State[] images = new State[3];

    int feed(int... numbers) {
        if (tape.length() + 20 > 500) {
            return -1;
        }
        for (int number : numbers) {
            for (int i = 3; i >= 0; i--) {
                tape.append((char) ((number >> (8 * i)) & 255));
            }
        }
        return tape.length();
    }

    int end(int n) {
        if (n < 0 || n > tape.length()) {
            return -1;
        }
        tape.setLength(n);
        return n;
    }

    private static char letterOf(String token) {
        switch (token) {
            case "when": return 'w';
            case "and": return 'a';
            case "age": case "purse": case "courses": case "sum": case "first": case "week": return 's';
            case "add": case "less": case "least": case "most": return 'o';
            case "part": return 'p';
            case "free": case "end": return 'z';
            case "<": case ">": case "=": return 'c';
            case ":": case ";": case "/": return token.charAt(0);
            default: return token.matches("[0-9]{1,5}") ? 'n' : '?';
        }
    }

    int fees() {
        String text = tape.toString();
        tape.setLength(0);
        List<String> tokens = new ArrayList<>();
        List<Integer> places = new ArrayList<>();
        StringBuilder letters = new StringBuilder();
        Matcher m = TOKEN.matcher(text);
        while (m.find()) {
            tokens.add(m.group());
            places.add(m.start());
            letters.append(letterOf(m.group()));
        }
        places.add(text.length());
        for (int n = 1; n <= letters.length(); n++) {
            Matcher prefix = TEXT.matcher(letters.substring(0, n));
            if (!prefix.matches() && !prefix.hitEnd()) {
                return fail(1, places.get(n - 1));
            }
        }
        if (!TEXT.matcher(letters).matches()) {
            return fail(1, text.length());
        }
        int lines = 0;
        int tests = 0;
        for (int i = 0; i < tokens.size(); i++) {
            if (i == 0 || tokens.get(i - 1).equals(";")) {
                lines++;
                tests = 0;
                if (lines == 17) {
                    return fail(3, places.get(i));
                }
            }
            if (letters.charAt(i) == 's' && ++tests == 5) {
                return fail(3, places.get(i));
            }
            if (i > 0 && tokens.get(i - 1).equals("/") && Integer.parseInt(tokens.get(i)) == 0) {
                return fail(2, places.get(i));
            }
        }
        fault = 0;
        faultPlace = -1;
        s.fees = linesOf(tokens);
        return s.fees.size();
    }

    private int fail(int which, int place) {
        fault = which;
        faultPlace = place;
        return -1;
    }

    private static List<Line> linesOf(List<String> tokens) {
        List<Line> lines = new ArrayList<>();
        List<Test> tests = new ArrayList<>();
        for (int i = 0; i < tokens.size(); i++) {
            char letter = letterOf(tokens.get(i));
            if (letter == 's') {
                tests.add(new Test(tokens.get(i), tokens.get(i + 1).charAt(0), Integer.parseInt(tokens.get(i + 2))));
            }
            if (letter == 'o' || letter == 'p' || letter == 'z') {
                int a = letter == 'z' ? 0 : Integer.parseInt(tokens.get(i + 1));
                int b = letter == 'p' ? Integer.parseInt(tokens.get(i + 3)) : 0;
                lines.add(new Line(tests, tokens.get(i), a, b));
                tests = new ArrayList<>();
            }
        }
        return lines;
    }

    int fault(int what) {
        return what == 0 ? fault : what == 1 ? faultPlace : -1;
    }

    int room(int seats) {
        if (s.term || s.rooms.size() == 5 || seats < 1 || seats > 40) {
            return -1;
        }
        s.rooms.add(seats);
        return s.rooms.size() - 1;
    }

    int course(int evening, int teacher, int least, int most, int price) {
        if (s.term || s.courses.size() == 10 || evening < 0 || evening > 4 || teacher < 0 || teacher > 5
                || least < 1 || least > 40 || most < 1 || most > 40 || least > most || price < 0 || price > 1000) {
            return -1;
        }
        s.courses.add(new Course(evening, teacher, least, most, price));
        return s.courses.size() - 1;
    }

    int pupil(int age, int purse, int wants) {
        if (s.term || s.pupils.size() == 30 || age < 0 || age > 120 || purse < 0 || purse > 2 || wants < 1 || wants > 3) {
            return -1;
        }
        Pupil p = new Pupil();
        p.age = age;
        p.purse = purse;
        p.wants = wants;
        s.pupils.add(p);
        return s.pupils.size() - 1;
    }

    private boolean noPupil(int pupil) {
        return pupil < 0 || pupil >= s.pupils.size();
    }

    private boolean noCourse(int course) {
        return course < 0 || course >= s.courses.size();
    }

    int wish(int pupil, int course) {
        if (noPupil(pupil) || noCourse(course)) {
            return -1;
        }
        List<Integer> wishes = s.pupils.get(pupil).wishes;
        if (wishes.size() == 6 || wishes.contains(course)) {
            return -1;
        }
        wishes.add(course);
        int rank = wishes.size() - 1;
        moveUp();
        return rank;
    }

    /** The room of each course of the set; null if it can't be held. */
    private Map<Integer, Integer> roomsFor(int set) {
        if (s.courses.size() < 32 && (set & (-1 << s.courses.size())) != 0) {
            return null;
        }
        List<Integer> rooms = new ArrayList<>();
        for (int r = 0; r < s.rooms.size(); r++) {
            rooms.add(r);
        }
        rooms.sort(Comparator.comparing((Integer r) -> -s.rooms.get(r)).thenComparing(r -> r));
        Map<Integer, Integer> result = new LinkedHashMap<>();
        for (int evening = 0; evening < 5; evening++) {
            List<Integer> those = new ArrayList<>();
            TreeSet<Integer> teachers = new TreeSet<>();
            for (int c = 0; c < s.courses.size(); c++) {
                if ((set >> c & 1) == 1 && s.courses.get(c).evening == evening) {
                    those.add(c);
                    if (!teachers.add(s.courses.get(c).teacher)) {
                        return null;
                    }
                }
            }
            if (those.size() > rooms.size()) {
                return null;
            }
            those.sort(Comparator.comparing((Integer c) -> -s.courses.get(c).most).thenComparing(c -> c));
            for (int i = 0; i < those.size(); i++) {
                result.put(those.get(i), rooms.get(i));
                if (placesOf(those.get(i), rooms.get(i)) < s.courses.get(those.get(i)).least) {
                    return null;
                }
            }
        }
        return result;
    }

    private int placesOf(int course, int room) {
        return Math.min(s.courses.get(course).most, s.rooms.get(room));
    }

    boolean canHold(int set) {
        return roomsFor(set) != null;
    }

    /** Who gets what of such a set; null if it is not lawful. */
    private List<TreeSet<Integer>> placing(Map<Integer, Integer> roomOf) {
        List<TreeSet<Integer>> got = new ArrayList<>();
        List<Integer> order = new ArrayList<>();
        int[] left = new int[10];
        for (int c : roomOf.keySet()) {
            left[c] = placesOf(c, roomOf.get(c));
        }
        int n = s.pupils.size();
        for (int i = 0; i < n; i++) {
            got.add(new TreeSet<>());
        }
        for (int i = 0; i < n; i++) {
            order.add(i);
        }
        for (int i = n - 1; i >= 0; i--) {
            order.add(i);
        }
        for (int i = 0; i < n; i++) {
            order.add(i);
        }
        for (int i : order) {
            Pupil p = s.pupils.get(i);
            TreeSet<Integer> mine = got.get(i);
            for (int c : p.wishes) {
                if (mine.size() < p.wants && roomOf.containsKey(c) && !mine.contains(c) && left[c] > 0
                        && mine.stream().noneMatch(d -> s.courses.get(d).evening == s.courses.get(c).evening)) {
                    mine.add(c);
                    left[c]--;
                    break;
                }
            }
        }
        for (int c : roomOf.keySet()) {
            if (got.stream().filter(g -> g.contains(c)).count() < s.courses.get(c).least) {
                return null;
            }
        }
        return got;
    }

    private int pointsOf(Pupil p, TreeSet<Integer> has) {
        return has.stream().mapToInt(c -> 6 - p.wishes.indexOf(c)).sum();
    }

    int points(int set) {
        Map<Integer, Integer> rooms = roomsFor(set);
        List<TreeSet<Integer>> got = rooms == null ? null : placing(rooms);
        if (got == null) {
            return -1;
        }
        int sum = 0;
        for (int i = 0; i < got.size(); i++) {
            sum += pointsOf(s.pupils.get(i), got.get(i));
        }
        return sum;
    }

    int open() {
        if (s.term) {
            return -1;
        }
        int best = 0;
        int most = 0;
        for (int set = (1 << s.courses.size()) - 1; set >= 0; set--) {
            int points = points(set);
            if (points >= most) {
                best = set;
                most = points;
            }
        }
        s.roomOfHeld = roomsFor(best);
        List<TreeSet<Integer>> got = placing(s.roomOfHeld);
        for (int i = 0; i < got.size(); i++) {
            s.pupils.get(i).has = got.get(i);
        }
        s.term = true;
        s.week = 0;
        moveUp();
        return most;
    }

    int close() {
        if (!s.term) {
            return -1;
        }
        s.term = false;
        int weeks = s.week;
        s.week = 0;
        s.roomOfHeld.clear();
        s.weeksHeld.clear();
        s.teacherHours.clear();
        s.roomHours.clear();
        for (Pupil p : s.pupils) {
            p.has.clear();
            p.moves = 0;
        }
        return weeks;
    }

    private int pupilsOf(int course) {
        return (int) s.pupils.stream().filter(p -> p.has.contains(course)).count();
    }

    private Integer hasOn(Pupil p, int evening) {
        for (int c : p.has) {
            if (s.courses.get(c).evening == evening) {
                return c;
            }
        }
        return null;
    }

    private void moveUp() {
        while (moveOne()) {
            continue;
        }
    }

    private boolean moveOne() {
        for (Pupil p : s.pupils) {
            for (int rank = 0; rank < p.wishes.size(); rank++) {
                int c = p.wishes.get(rank);
                if (!s.roomOfHeld.containsKey(c) || p.has.contains(c) || pupilsOf(c) >= placesOf(c, s.roomOfHeld.get(c))) {
                    continue;
                }
                Integer there = hasOn(p, s.courses.get(c).evening);
                if (there != null && p.wishes.indexOf(there) > rank) {
                    p.has.remove(there);
                } else if (there != null || p.has.size() >= p.wants) {
                    continue;
                }
                p.has.add(c);
                p.moves++;
                return true;
            }
        }
        return false;
    }

    int weeks(int n) {
        if (!s.term || n < 1 || n > 20) {
            return -1;
        }
        for (int i = 0; i < n; i++) {
            s.week++;
            for (int c : s.roomOfHeld.keySet()) {
                s.weeksHeld.merge(c, 1, Integer::sum);
                s.teacherHours.merge(s.courses.get(c).teacher, 2, Integer::sum);
                s.roomHours.merge(s.roomOfHeld.get(c), 2, Integer::sum);
            }
            for (int c = 0; c < s.courses.size(); c++) {
                if (s.roomOfHeld.containsKey(c) && 2 * pupilsOf(c) < s.courses.get(c).least) {
                    s.roomOfHeld.remove(c);
                    for (Pupil p : s.pupils) {
                        p.has.remove(c);
                    }
                }
            }
            moveUp();
        }
        return s.week;
    }

    boolean quit(int pupil, int course) {
        if (noPupil(pupil) || !s.pupils.get(pupil).has.contains(course)) {
            return false;
        }
        s.pupils.get(pupil).has.remove(course);
        s.pupils.get(pupil).wishes.remove((Integer) course);
        moveUp();
        return true;
    }

    int tell(int course, int what) {
        if (noCourse(course)) {
            return -1;
        }
        Course c = s.courses.get(course);
        boolean held = s.roomOfHeld.containsKey(course);
        switch (what) {
            case 0: return c.evening;
            case 1: return c.teacher;
            case 2: return c.least;
            case 3: return c.most;
            case 4: return c.price;
            case 5: return held ? 1 : 0;
            case 6: return held ? s.roomOfHeld.get(course) : -1;
            case 7: return held ? placesOf(course, s.roomOfHeld.get(course)) : 0;
            case 8: return pupilsOf(course);
            case 9: return s.weeksHeld.getOrDefault(course, 0);
            default: return -1;
        }
    }

    int person(int pupil, int what) {
        if (noPupil(pupil)) {
            return -1;
        }
        Pupil p = s.pupils.get(pupil);
        switch (what) {
            case 0: return p.age;
            case 1: return p.purse;
            case 2: return p.wants;
            case 3: return p.has.stream().mapToInt(c -> 1 << c).sum();
            case 4: return p.wishes.size();
            case 5: return pointsOf(p, p.has);
            case 6: return p.moves;
            case 10: case 11: case 12: case 13: case 14: case 15:
                return what - 10 < p.wishes.size() ? p.wishes.get(what - 10) : -1;
            case 20: case 21: case 22: case 23: case 24:
                return hasOn(p, what - 20) == null ? -1 : hasOn(p, what - 20);
            default: return -1;
        }
    }

    int why(int pupil, int course) {
        if (noPupil(pupil) || noCourse(course)) {
            return -1;
        }
        Pupil p = s.pupils.get(pupil);
        Integer there = hasOn(p, s.courses.get(course).evening);
        if (p.has.contains(course)) {
            return 0;
        }
        if (!p.wishes.contains(course)) {
            return 1;
        }
        if (!s.roomOfHeld.containsKey(course)) {
            return 2;
        }
        if (there != null && p.wishes.indexOf(there) < p.wishes.indexOf(course)) {
            return 3;
        }
        if (there == null && p.has.size() == p.wants) {
            return 4;
        }
        if (pupilsOf(course) < placesOf(course, s.roomOfHeld.get(course))) {
            throw new IllegalStateException("somebody could still move up");
        }
        return 5;
    }

    int hours(int what, int k) {
        if (what == 0 && k >= 0 && k <= 5) {
            return s.teacherHours.getOrDefault(k, 0);
        }
        if (what == 1 && k >= 0 && k < s.rooms.size()) {
            return s.roomHours.getOrDefault(k, 0);
        }
        return -1;
    }

    private long valueOf(String subject, Pupil p, long sum) {
        switch (subject) {
            case "age": return p.age;
            case "purse": return p.purse;
            case "courses": return p.has.size();
            case "sum": return sum;
            case "first": return !p.wishes.isEmpty() && p.has.contains(p.wishes.get(0)) ? 1 : 0;
            default: return s.term ? s.week : 0;
        }
    }

    private static long acted(Line l, long sum) {
        switch (l.act) {
            case "add": return sum + l.a;
            case "less": return sum < l.a ? 0 : sum - l.a;
            case "part": return sum * l.a / l.b;
            case "least": return sum < l.a ? l.a : sum;
            case "most": return sum > l.a ? l.a : sum;
            case "free": return 0;
            default: return sum;
        }
    }

    /** By how much each line changes the bill; the first element is the sum of the prices. */
    private List<Long> changes(Pupil p) {
        List<Long> result = new ArrayList<>();
        long sum = p.has.stream().mapToInt(c -> s.courses.get(c).price).sum();
        result.add(sum);
        boolean over = false;
        for (Line l : s.fees) {
            boolean all = !over;
            for (Test t : l.tests) {
                long v = valueOf(t.subject, p, sum);
                all = all && (t.sign == '<' ? v < t.number : t.sign == '>' ? v > t.number : v == t.number);
            }
            long next = all ? Math.min(acted(l, sum), 1000000000L) : sum;
            over = over || all && l.act.equals("end");
            result.add(next - sum);
            sum = next;
        }
        return result;
    }

    int bill(int pupil) {
        return noPupil(pupil) ? -1 : (int) changes(s.pupils.get(pupil)).stream().mapToLong(x -> x).sum();
    }

    int line(int pupil, int k) {
        if (noPupil(pupil) || k < 0 || k >= s.fees.size()) {
            return -2000000000;
        }
        return (int) (long) changes(s.pupils.get(pupil)).get(k + 1);
    }

    int count(int what) {
        switch (what) {
            case 0: return s.rooms.size();
            case 1: return s.courses.size();
            case 2: return s.pupils.size();
            case 3: return s.roomOfHeld.size();
            case 4: return s.pupils.stream().mapToInt(p -> p.has.size()).sum();
            case 5: return s.pupils.stream().mapToInt(p -> pointsOf(p, p.has)).sum();
            case 6: return s.term ? s.week : -1;
            case 7: return s.fees.size();
            case 8: return s.pupils.stream().mapToInt(p -> p.moves).sum();
            default: return -1;
        }
    }

    int waits(int course, int k) {
        List<Integer> those = new ArrayList<>();
        for (int p = 0; p < s.pupils.size(); p++) {
            if (why(p, course) == 5) {
                those.add(p);
            }
        }
        return k < 0 || k >= those.size() ? -1 : those.get(k);
    }

    boolean image(int k) {
        if (k < 0 || k > 2) {
            return false;
        }
        images[k] = s.copy();
        return true;
    }

    boolean again(int k) {
        if (k < 0 || k > 2 || images[k] == null) {
            return false;
        }
        s = images[k].copy();
        return true;
    }
}
