import java.util.ArrayList;
import java.util.HashMap;
import java.util.List;
import java.util.Map;
import java.util.TreeMap;

/** The document once more, by plainer means: rows of what happened, each question answered from them, every set tried. */
final class PlainModel {
    private static final int BAD = Checks.BAD, NO = Checks.NO, FULL = Checks.FULL, NONE = Checks.NONE;

    private record Stay(int day, int branch) {
    }

    private record Paper(int day, int member) {
    }

    private record Heard(int day, int member, int how) {
    }

    private record Row(int mark, int branch) {
    }

    private record Given(int ballot, int day, int first, int wrong, int listed) {
    }

    private static final class Person {
        int mark, hours, wage;
        Integer left;
        final List<Stay> stays = new ArrayList<>();

        int on(int day) {
            int branch = NONE;
            for (Stay stay : stays) {
                branch = stay.day() <= day ? stay.branch() : branch;
            }
            return left != null && left <= day ? NONE : branch;
        }
    }

    private static final class Vote {
        int bits, day;
        Integer closed;
        final List<Paper> papers = new ArrayList<>();
        final List<Heard> heard = new ArrayList<>();
    }

    private final List<Integer> kinds = new ArrayList<>();
    private final List<Person> people = new ArrayList<>();
    private final List<Row> lines = new ArrayList<>();
    private final List<Vote> votes = new ArrayList<>();
    private final List<Given> given = new ArrayList<>();
    private final List<Integer> waiting = new ArrayList<>();
    private final int[] harms = new int[12];
    private final int[] rules = {0, 50, 0, 3, 3};
    private final List<List<Short>> sheets = new ArrayList<>(List.of(new ArrayList<>(), new ArrayList<>()));
    private final boolean[] isThere = new boolean[2];
    private String tape = "";
    private PlainLaw law;
    private int today;

    private static boolean in(int v, int least, int most) {
        return least <= v && v <= most;
    }

    private static boolean has(List<?> list, int i) {
        return in(i, 0, list.size() - 1);
    }

    private boolean isVital(int branch) {
        return kinds.get(branch) == 1 || kinds.get(branch) == 2;
    }

    private static boolean bit(long bits, int i) {
        return i >= 0 && (bits >> i & 1) != 0;
    }

    int answer(String call, int[] a) {
        switch (call) {
            case "branch": return branch(a[0]);
            case "isOf": return isOf(a[0], a[1]);
            case "member": return member(a[0], a[1], a[2], a[3]);
            case "move": return move(a[0], a[1]);
            case "leave": return leave(a[0]);
            case "of": return has(people, a[0]) && in(a[1], 0, today) ? people.get(a[0]).on(a[1]) : BAD;
            case "told": return told(a[0], a[1]);
            case "line": return line(a[0], a[1]);
            case "roll": return roll(a[0], a[1]);
            case "wipe": return wipe();
            case "joined": return has(lines, a[0]) ? joins(2).getOrDefault(a[0], NONE) : BAD;
            case "rolls": return rolls(a[0], a[1]);
            case "days": return in(a[0], 1, 60) && today + a[0] <= 400 ? today += a[0] : BAD;
            case "open": return open(a[0]);
            case "send": return send(a[0], a[1]);
            case "sendAll": return sendAll(a[0]);
            case "back": return back(a[0], a[1], a[2]);
            case "close": return close(a[0]);
            case "name": return name(a[0], a[1], a[2]);
            case "about": return about(a[0], a[1]);
            case "parcels": return has(votes, a[0]) ? parcels(votes.get(a[0])).size() : BAD;
            case "parcel": return parcel(a[0], a[1], a[2]);
            case "feed": return feed(a);
            case "trim": return trim(a[0]);
            case "law": return law();
            case "says": return says(a[0], a[1], a[2]);
            case "stands": return stands(a[0], a[1]);
            case "lives": return lives(a[0], a[1]);
            case "cure": return cure(a[0]);
            case "notice": return notice(a[0], a[1], a[2], a[3]);
            case "noticed": return noticed(a[0], a[1]);
            case "holds": return holds(a[0]);
            case "harm": return harm(a[0], a[1]);
            case "lay": return lay(a[0]);
            case "rule": return rule(a[0], a[1]);
            case "plan": return has(votes, a[0]) && in(a[1], 1, 12) ? harmOf(best(a[0], a[1])) : BAD;
            case "planned": return has(votes, a[0]) && in(a[1], 1, 12) ? best(a[0], a[1]) : BAD;
            case "cost": return has(votes, a[0]) ? cost(votes.get(a[0])) : BAD;
            case "tell": return tell(a[0]);
            case "check": return check(a[0], a[1]);
            case "docked": return docked(a[0], a[1]);
            case "sheet": return sheet(a[0], a[1]);
            case "mark": return mark(a[0], a[1], a[2]);
            case "copy": return copy(a);
            case "count": return count(a[0]);
            default: throw new IllegalArgumentException(call);
        }
    }

    private int branch(int kind) {
        if (!in(kind, 0, 3)) {
            return BAD;
        }
        return kinds.size() == 6 ? FULL : added(kinds, kind);
    }

    private static <T> int added(List<T> list, T v) {
        list.add(v);
        return list.size() - 1;
    }

    private int isOf(int branch, int kind) {
        if (!has(kinds, branch) || !in(kind, 0, 3)) {
            return BAD;
        }
        return kind == 0 || (kind == 1 ? isVital(branch) : kinds.get(branch) == kind) ? 1 : 0;
    }

    private int member(int mark, int branch, int hours, int wage) {
        if (!in(mark, 0, 9999) || !has(kinds, branch) || !in(hours, 1, 48) || !in(wage, 1, 999)) {
            return BAD;
        }
        if (people.size() == 40) {
            return FULL;
        }
        Person p = new Person();
        p.mark = mark;
        p.hours = hours;
        p.wage = wage;
        p.stays.add(new Stay(today, branch));
        return added(people, p);
    }

    private int move(int member, int branch) {
        if (!has(people, member) || !has(kinds, branch)) {
            return BAD;
        }
        Person p = people.get(member);
        if (p.left != null || p.on(today) == branch) {
            return NO;
        }
        if (p.stays.size() == 7) {
            return FULL;
        }
        int before = p.on(today);
        p.stays.add(new Stay(today, branch));
        return before;
    }

    private int leave(int member) {
        if (!has(people, member)) {
            return BAD;
        }
        Person p = people.get(member);
        if (p.left != null) {
            return NO;
        }
        int before = p.on(today);
        p.left = today;
        return before;
    }

    private int told(int member, int what) {
        if (!has(people, member) || !in(what, 0, 4)) {
            return BAD;
        }
        Person p = people.get(member);
        return new int[] {p.mark, p.hours, p.wage, p.stays.get(0).day(), p.left == null ? NONE : p.left}[what];
    }

    private int line(int mark, int branch) {
        if (!in(mark, 0, 9999) || !has(kinds, branch)) {
            return BAD;
        }
        return lines.size() == 40 ? FULL : added(lines, new Row(mark, branch));
    }

    private int roll(int branch, int sheet) {
        if (!has(kinds, branch) || !in(sheet, 0, 1)) {
            return BAD;
        }
        if (!isThere[sheet]) {
            return Checks.NOTHING;
        }
        int came = 0;
        for (short v : sheets.get(sheet)) {
            came += line(v, branch) >= 0 ? 1 : 0;
        }
        return came;
    }

    private int wipe() {
        int had = lines.size();
        lines.clear();
        return had;
    }

    /** Lines with their members; after the first round (same marks) or after both. */
    private Map<Integer, Integer> joins(int rounds) {
        Map<Integer, Integer> joins = new TreeMap<>();
        for (int round = 0; round < rounds; round++) {
            for (int i = 0; i < lines.size(); i++) {
                for (int m = 0; m < people.size() && !joins.containsKey(i); m++) {
                    Person p = people.get(m);
                    boolean fits = p.on(today) == lines.get(i).branch() && unlike(p.mark, lines.get(i).mark()) == round;
                    if (fits && !joins.containsValue(m)) {
                        joins.put(i, m);
                    }
                }
            }
        }
        return joins;
    }

    private static int unlike(int a, int b) {
        String one = String.format("%04d", a);
        String other = String.format("%04d", b);
        int unlike = 0;
        for (int i = 0; i < 4; i++) {
            unlike += one.charAt(i) != other.charAt(i) ? 1 : 0;
        }
        return unlike;
    }

    private int rolls(int branch, int what) {
        if (!has(kinds, branch) || !in(what, 0, 4)) {
            return BAD;
        }
        int all = (int) people.stream().filter(p -> p.on(today) == branch).count();
        int own = (int) lines.stream().filter(l -> l.branch() == branch).count();
        int same = (int) joins(1).keySet().stream().filter(i -> lines.get(i).branch() == branch).count();
        int both = (int) joins(2).keySet().stream().filter(i -> lines.get(i).branch() == branch).count();
        return new int[] {all, own, same, both - same, all - both}[what];
    }

    private int open(int bits) {
        if (!in(bits, 1, (1 << kinds.size()) - 1)) {
            return BAD;
        }
        if (votes.size() == 12) {
            return FULL;
        }
        Vote v = new Vote();
        v.bits = bits;
        v.day = today;
        return added(votes, v);
    }

    private boolean wasSent(Vote v, int member) {
        return v.papers.stream().anyMatch(p -> p.member() == member);
    }

    private boolean isEntitled(Vote v, int member) {
        return bit(v.bits, people.get(member).on(v.day));
    }

    private int send(int ballot, int member) {
        if (!has(votes, ballot) || !has(people, member)) {
            return BAD;
        }
        Vote v = votes.get(ballot);
        if (v.closed != null || wasSent(v, member)) {
            return NO;
        }
        return added(v.papers, new Paper(today, member)) + 1;
    }

    private int sendAll(int ballot) {
        if (!has(votes, ballot)) {
            return BAD;
        }
        if (votes.get(ballot).closed != null) {
            return NO;
        }
        int sent = 0;
        for (int m = 0; m < people.size(); m++) {
            sent += isEntitled(votes.get(ballot), m) && send(ballot, m) > 0 ? 1 : 0;
        }
        return sent;
    }

    private int back(int ballot, int member, int how) {
        if (!has(votes, ballot) || !has(people, member) || !in(how, 0, 3)) {
            return BAD;
        }
        Vote v = votes.get(ballot);
        if (v.closed != null || !wasSent(v, member) || v.heard.stream().anyMatch(h -> h.member() == member)) {
            return NO;
        }
        v.heard.add(new Heard(today, member, how));
        return 1;
    }

    private int close(int ballot) {
        if (!has(votes, ballot)) {
            return BAD;
        }
        Vote v = votes.get(ballot);
        if (v.closed != null) {
            return NO;
        }
        v.closed = today;
        return v.papers.size();
    }

    private Map<Character, Integer> names(Vote v, int day) {
        Map<Character, Integer> names = new HashMap<>();
        for (char c : "epmxbrynvdalc".toCharArray()) {
            names.put(c, 0);
        }
        for (int m = 0; m < people.size(); m++) {
            names.merge('e', isEntitled(v, m) ? 1 : 0, Integer::sum);
        }
        for (Paper p : v.papers) {
            if (p.day() <= day) {
                names.merge(isEntitled(v, p.member()) ? 'p' : 'x', 1, Integer::sum);
            }
        }
        names.put('m', names.get('e') - names.get('p'));
        for (Heard h : v.heard) {
            if (h.day() <= day && isEntitled(v, h.member())) {
                for (char c : new String[] {"b", "ry", "rn", "r"}[h.how()].toCharArray()) {
                    names.merge(c, 1, Integer::sum);
                }
            }
        }
        for (int b = 0; b < kinds.size(); b++) {
            if (bit(v.bits, b) && isVital(b)) {
                names.put('v', 1);
            }
        }
        names.put('d', day - v.day);
        return names;
    }

    private int name(int ballot, int letter, int day) {
        if (!has(votes, ballot) || !in(letter, 1, 127) || "epmxbrynvd".indexOf(letter) < 0
                || !in(day, votes.get(ballot).day, today)) {
            return BAD;
        }
        return names(votes.get(ballot), day).get((char) letter);
    }

    private int about(int ballot, int what) {
        if (!has(votes, ballot) || !in(what, 0, 2)) {
            return BAD;
        }
        Vote v = votes.get(ballot);
        return new int[] {v.bits, v.day, v.closed == null ? NONE : v.closed}[what];
    }

    /** Each parcel: its branches, returned, yes, no. */
    private List<int[]> parcels(Vote v) {
        List<int[]> parcels = new ArrayList<>();
        int[] now = new int[4];
        for (int b = 0; b < kinds.size(); b++) {
            boolean hasEntitled = false;
            for (Person p : people) {
                hasEntitled |= p.on(v.day) == b;
            }
            if (!bit(v.bits, b) || !hasEntitled) {
                continue;
            }
            now[0] += 1 << b;
            for (Heard h : v.heard) {
                if (people.get(h.member()).on(v.day) == b && h.how() > 0) {
                    now[1]++;
                    now[2] += h.how() == 1 ? 1 : 0;
                    now[3] += h.how() == 2 ? 1 : 0;
                }
            }
            if (now[1] >= rules[4]) {
                parcels.add(now);
                now = new int[4];
            }
        }
        if (now[0] != 0 && parcels.isEmpty()) {
            parcels.add(now);
        } else if (now[0] != 0) {
            for (int i = 0; i < 4; i++) {
                parcels.get(parcels.size() - 1)[i] += now[i];
            }
        }
        return parcels;
    }

    private int parcel(int ballot, int i, int what) {
        if (!has(votes, ballot) || i < 0 || !in(what, 0, 3)) {
            return BAD;
        }
        List<int[]> parcels = parcels(votes.get(ballot));
        return has(parcels, i) ? parcels.get(i)[what] : NONE;
    }

    private int feed(int[] numbers) {
        if (tape.length() > 96) {
            return FULL;
        }
        for (int v : numbers) {
            tape += "" + (char) (v >> 24 & 255) + (char) (v >> 16 & 255) + (char) (v >> 8 & 255) + (char) (v & 255);
        }
        return tape.length();
    }

    private int trim(int n) {
        if (!in(n, 0, tape.length())) {
            return BAD;
        }
        tape = tape.substring(0, n);
        return n;
    }

    private int law() {
        PlainLaw read = new PlainLaw(tape);
        tape = "";
        if (read.fault >= 0) {
            return -100 - read.fault;
        }
        law = read;
        return law.operands;
    }

    private int says(int ballot, int which, int day) {
        if (!has(votes, ballot) || !in(which, 0, 1) || !in(day, votes.get(ballot).day, today)) {
            return BAD;
        }
        return law == null ? NO : law.value(2 * which, names(votes.get(ballot), day));
    }

    private boolean isStanding(Vote v, int day) {
        return law != null && v.closed != null && v.closed <= day && law.value(0, names(v, day)) != 0;
    }

    private boolean isLiving(Vote v, int day) {
        return v.closed != null && day >= v.closed && isStanding(v, v.closed)
                && law.value(2, names(v, v.closed)) >= day - v.closed;
    }

    private int stands(int ballot, int day) {
        if (!has(votes, ballot) || !in(day, votes.get(ballot).day, today)) {
            return BAD;
        }
        return isStanding(votes.get(ballot), day) ? 1 : 0;
    }

    private int lives(int ballot, int day) {
        if (!has(votes, ballot) || !in(day, 0, 400)) {
            return BAD;
        }
        if (votes.get(ballot).closed == null) {
            return NO;
        }
        return isLiving(votes.get(ballot), day) ? 1 : 0;
    }

    private int cure(int ballot) {
        if (!has(votes, ballot)) {
            return BAD;
        }
        Map<Character, Integer> names = names(votes.get(ballot), today);
        if (law == null || law.value(0, names) != 0) {
            return NO;
        }
        int missed = names.get('m');
        for (int k = 1; k <= missed; k++) {
            names.merge('p', 1, Integer::sum);
            names.merge('m', -1, Integer::sum);
            if (law.value(0, names) != 0) {
                return k;
            }
        }
        return NONE;
    }

    private int notice(int ballot, int first, int low, int high) {
        if (!has(votes, ballot) || !in(first, today, 400) || !in(low, 0, 1048575) || !in(high, 0, 1048575)) {
            return BAD;
        }
        long list = high * 1048576L + low;
        if (list >= 1L << people.size()) {
            return BAD;
        }
        if (given.size() == 12) {
            return FULL;
        }
        int wrong = 0;
        int listed = 0;
        for (int m = 0; m < people.size(); m++) {
            boolean isOfThem = bit(votes.get(ballot).bits, people.get(m).on(today));
            wrong += isOfThem == bit(list, m) ? 0 : 1;
            listed += bit(list, m) ? 1 : 0;
        }
        return added(given, new Given(ballot, today, first, wrong, listed));
    }

    private int noticed(int notice, int what) {
        if (!has(given, notice) || !in(what, 0, 4)) {
            return BAD;
        }
        Given g = given.get(notice);
        return new int[] {g.ballot(), g.day(), g.first(), g.wrong(), g.listed()}[what];
    }

    private int holds(int notice) {
        if (!has(given, notice)) {
            return BAD;
        }
        Given g = given.get(notice);
        Vote v = votes.get(g.ballot());
        Map<Character, Integer> names = names(v, g.day());
        names.put('a', g.first() - g.day());
        names.put('l', g.wrong());
        names.put('c', g.listed());
        return law != null && law.value(1, names) != 0 && isLiving(v, g.first()) ? 1 : 0;
    }

    private int harm(int i, int v) {
        if (!in(i, 0, 11) || !in(v, 0, 999)) {
            return BAD;
        }
        int before = harms[i];
        harms[i] = v;
        return before;
    }

    private int lay(int sheet) {
        if (!in(sheet, 0, 1)) {
            return BAD;
        }
        if (!isThere[sheet]) {
            return Checks.NOTHING;
        }
        int many = 0;
        for (short v : sheets.get(sheet)) {
            if (many < 12) {
                harms[many++] = in(v, 0, 999) ? v : 0;
            }
        }
        return many;
    }

    private int rule(int which, int v) {
        int[][] bounds = {{0, 1000000}, {0, 100}, {0, 9999}, {1, 12}, {1, 20}};
        if (!in(which, 0, 4) || !in(v, bounds[which][0], bounds[which][1])) {
            return BAD;
        }
        int before = rules[which];
        rules[which] = v;
        return before;
    }

    private int cost(Vote v) {
        int cost = 0;
        for (Person p : people) {
            cost += bit(v.bits, p.on(today)) ? p.hours * p.wage / 5 * rules[1] / 100 : 0;
        }
        return cost;
    }

    private int harmOf(int set) {
        int harm = 0;
        for (int i = 0; i < 12; i++) {
            harm += bit(set, i) ? harms[i] : 0;
        }
        return harm;
    }

    private int best(int ballot, int n) {
        Vote v = votes.get(ballot);
        boolean isVital = false;
        for (Person p : people) {
            isVital |= bit(v.bits, p.on(today)) && isVital(p.on(today));
        }
        int cost = cost(v);
        int best = 0;
        for (int set = 1; set < 1 << n; set++) {
            int more = harmOf(set) - harmOf(best);
            boolean isBetter = more > 0 || more == 0 && Integer.bitCount(set) < Integer.bitCount(best);
            if (isBetter && mayBe(set, n, cost, isVital)) {
                best = set;
            }
        }
        return best;
    }

    private boolean mayBe(int set, int n, int cost, boolean isVital) {
        String days = new StringBuilder(Integer.toBinaryString(set)).reverse().toString();
        if (days.contains("1".repeat(rules[3] + 1)) || isVital && days.contains("11")) {
            return false;
        }
        for (int i = 0; i < n; i++) {
            if (rules[0] + i * rules[2] - Integer.bitCount(set & (2 << i) - 1) * cost < 0) {
                return false;
            }
        }
        return true;
    }

    private int tell(int v) {
        return waiting.size() == 30 ? FULL : added(waiting, v) + 1;
    }

    private int check(int ballot, int n) {
        List<Integer> told = new ArrayList<>(waiting);
        waiting.clear();
        if (!has(votes, ballot) || !in(n, 1, 12)) {
            return BAD;
        }
        List<Integer> rows = rows(ballot, n);
        if (rows.equals(told)) {
            return 0;
        }
        int right = 0;
        while (right < rows.size() && right < told.size() && rows.get(right).equals(told.get(right))) {
            right++;
        }
        return 1 + right;
    }

    List<Integer> rows(int ballot, int n) {
        int set = best(ballot, n);
        List<Integer> rows = new ArrayList<>();
        int fund = rules[0];
        for (int i = 0; i < n; i++) {
            fund += rules[2] - (bit(set, i) ? cost(votes.get(ballot)) : 0);
            rows.add(bit(set, i) ? 1 : 0);
            rows.add(fund);
        }
        return rows;
    }

    private int docked(int member, int minutes) {
        if (!has(people, member) || !in(minutes, 0, 600)) {
            return BAD;
        }
        Person p = people.get(member);
        return Math.max(0, p.hours * p.wage / 5 - p.wage * minutes / 60);
    }

    private int sheet(int s, int n) {
        if (!in(s, 0, 1) || n > 40) {
            return BAD;
        }
        if (n < 0) {
            return Checks.SIZE;
        }
        isThere[s] = true;
        sheets.get(s).clear();
        for (int i = 0; i < n; i++) {
            sheets.get(s).add((short) 0);
        }
        return n;
    }

    private int mark(int s, int place, int v) {
        if (!in(s, 0, 1)) {
            return BAD;
        }
        if (!isThere[s]) {
            return Checks.NOTHING;
        }
        return has(sheets.get(s), place) ? sheets.get(s).set(place, (short) v) : Checks.INDEX;
    }

    private int copy(int[] a) {
        if (!in(a[0], 0, 1) || !in(a[2], 0, 1)) {
            return BAD;
        }
        if (!isThere[a[0]] || !isThere[a[2]]) {
            return Checks.NOTHING;
        }
        int many = a[4];
        List<Short> from = sheets.get(a[0]);
        List<Short> to = sheets.get(a[2]);
        if (a[1] < 0 || a[3] < 0 || many < 0 || (long) a[1] + many > from.size() || (long) a[3] + many > to.size()) {
            return Checks.INDEX;
        }
        List<Short> taken = new ArrayList<>(from.subList(a[1], a[1] + many));
        for (int i = 0; i < many; i++) {
            to.set(a[3] + i, taken.get(i));
        }
        return many;
    }

    private int count(int what) {
        int stay = (int) people.stream().filter(p -> p.left == null).count();
        int[] counts = {kinds.size(), people.size(), stay, lines.size(), votes.size(), given.size(), today,
            waiting.size(), tape.length()};
        return in(what, 0, 8) ? counts[what] : BAD;
    }

    boolean isPlannable(int ballot, int n) {
        return has(votes, ballot) && in(n, 1, 12);
    }
}
