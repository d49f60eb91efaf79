import java.util.Arrays;

/** Ballots to strike, as the document's promises 1 to 46 tell them. */
public final class StrikeBallots {
    public static final int BAD = -1000000001, NO = -1000000002, FULL = -1000000003, NONE = -1000000005, NOTHING = -1000000011, INDEX = -1000000013, SIZE = -1000000014;

    private static final int LAST_DAY = 400;
    /** Above every day, so that "on a day or ahead of it" is one comparison for what has not happened, too. */
    private static final int NEVER = LAST_DAY + 1;
    private static final int MOST_DAYS_AT_ONCE = 60;
    private static final int MOST_BRANCHES = 6;
    private static final int MOST_MEMBERS = 40;
    private static final int MOST_LINES = 40;
    private static final int MOST_BALLOTS = 12;
    private static final int MOST_NOTICES = 12;
    private static final int MOST_MINUTES = 600;
    private static final int LAST_MARK = 9999;
    private static final int MEMBERS_IN_A_NUMBER = 20;

    private final Union union = new Union();
    private final Roll roll = new Roll(union);
    private final Ballot[] ballots = new Ballot[MOST_BALLOTS];
    private int ballotCount;
    private final Parcels parcels = new Parcels();
    private final Tape tape = new Tape();
    private Law law = new Law(tape);
    /** A text with a fault must leave the law as it is: each text is read into this one, and they change places. */
    private Law draft = new Law(tape);
    private boolean hasLaw;
    private final Names names = new Names();
    private final Notice[] notices = new Notice[MOST_NOTICES];
    private int noticeCount;
    private final Plan plan = new Plan();
    private final Sheet firstSheet = new Sheet();
    private final Sheet secondSheet = new Sheet();

    public StrikeBallots() {
    }

    // ---- branches, members, the roll

    public int branch(int kind) {
        if (!Union.isKind(kind)) {
            return BAD;
        }
        return union.branchCount >= MOST_BRANCHES ? FULL : union.addBranch(kind);
    }

    public int isOf(int branch, int kind) {
        if (!union.hasBranch(branch) || !Union.isKind(kind)) {
            return BAD;
        }
        return oneIf(union.isBranchOf(branch, kind));
    }

    public int member(int mark, int branch, int hours, int wage) {
        if (!isMark(mark) || !union.hasBranch(branch) || !isWithin(hours, 1, 48) || !isWithin(wage, 1, 999)) {
            return BAD;
        }
        if (union.memberCount >= MOST_MEMBERS) {
            return FULL;
        }
        return union.addMember(new Member(mark, branch, hours, wage, union.today));
    }

    public int move(int member, int branch) {
        Member mover = union.memberAt(member);
        if (mover == null || !union.hasBranch(branch)) {
            return BAD;
        }
        int before = mover.lastBranch();
        if (mover.hasLeft() || before == branch) {
            return NO;
        }
        return mover.goTo(branch, union.today) ? before : FULL;
    }

    public int leave(int member) {
        Member leaver = union.memberAt(member);
        if (leaver == null) {
            return BAD;
        }
        if (leaver.hasLeft()) {
            return NO;
        }
        leaver.left = union.today;
        return leaver.lastBranch();
    }

    public int of(int member, int day) {
        Member asked = union.memberAt(member);
        if (asked == null || !isWithin(day, 0, union.today)) {
            return BAD;
        }
        return asked.branchOn(day);
    }

    public int told(int member, int what) {
        Member asked = union.memberAt(member);
        if (asked == null) {
            return BAD;
        }
        switch (what) {
            case 0: return asked.ownMark;
            case 1: return asked.hours;
            case 2: return asked.wage;
            case 3: return asked.came;
            case 4: return dayOrNone(asked.left);
            default: return BAD;
        }
    }

    public int line(int mark, int branch) {
        if (!isMark(mark) || !union.hasBranch(branch)) {
            return BAD;
        }
        return roll.isFull() ? FULL : roll.addLine(mark, branch);
    }

    public int roll(int branch, int sheet) {
        Sheet from = sheetAt(sheet);
        if (from == null || !union.hasBranch(branch)) {
            return BAD;
        }
        return from.isMissing() ? NOTHING : roll.addLines(from, branch);
    }

    public int wipe() {
        int had = roll.lineCount;
        roll.lineCount = 0;
        return had;
    }

    public int joined(int line) {
        if (!isWithin(line, 0, roll.lineCount - 1)) {
            return BAD;
        }
        roll.join();
        return roll.partners[line];
    }

    public int rolls(int branch, int what) {
        if (!union.hasBranch(branch)) {
            return BAD;
        }
        roll.join();
        switch (what) {
            case 0: return union.sizeOf(branch);
            case 1: return roll.linesOf(branch);
            case 2: return roll.joinedLinesOf(branch, Roll.SAME);
            case 3: return roll.joinedLinesOf(branch, Roll.NEARLY);
            case 4: return roll.membersWithout(branch);
            default: return BAD;
        }
    }

    public int days(int n) {
        if (!isWithin(n, 1, MOST_DAYS_AT_ONCE) || union.today + n > LAST_DAY) {
            return BAD;
        }
        union.today += n;
        return union.today;
    }

    // ---- ballots

    public int open(int branches) {
        if (branches <= 0 || branches >> union.branchCount != 0) {
            return BAD;
        }
        if (ballotCount >= MOST_BALLOTS) {
            return FULL;
        }
        ballots[ballotCount] = new Ballot(union, branches);
        ballotCount++;
        return ballotCount - 1;
    }

    public int send(int ballot, int member) {
        Ballot sender = ballotAt(ballot);
        if (sender == null || union.memberAt(member) == null) {
            return BAD;
        }
        if (sender.hasClosed() || sender.hasSent(member)) {
            return NO;
        }
        sender.post(member);
        return sender.papers;
    }

    public int sendAll(int ballot) {
        Ballot sender = ballotAt(ballot);
        if (sender == null) {
            return BAD;
        }
        return sender.hasClosed() ? NO : sender.postToMissed();
    }

    public int back(int ballot, int member, int how) {
        Ballot receiver = ballotAt(ballot);
        if (receiver == null || union.memberAt(member) == null || !isWithin(how, Ballot.BACK, Ballot.SPOILT)) {
            return BAD;
        }
        if (receiver.hasClosed() || !receiver.hasSent(member) || receiver.hasHeard(member)) {
            return NO;
        }
        receiver.hear(member, how);
        return 1;
    }

    public int close(int ballot) {
        Ballot closer = ballotAt(ballot);
        if (closer == null) {
            return BAD;
        }
        if (closer.hasClosed()) {
            return NO;
        }
        closer.closing = union.today;
        return closer.papers;
    }

    public int name(int ballot, int letter, int day) {
        Ballot asked = ballotAt(ballot);
        if (asked == null || !isLetter(letter) || !Law.isBallotName((char) letter) || !isKnownDay(asked, day)) {
            return BAD;
        }
        asked.tellNames(names, day);
        return names.valueOf((char) letter);
    }

    public int about(int ballot, int what) {
        Ballot asked = ballotAt(ballot);
        if (asked == null) {
            return BAD;
        }
        switch (what) {
            case 0: return asked.branches;
            case 1: return asked.day;
            case 2: return dayOrNone(asked.closing);
            default: return BAD;
        }
    }

    public int parcels(int ballot) {
        Ballot asked = ballotAt(ballot);
        if (asked == null) {
            return BAD;
        }
        parcels.gather(asked, plan.rules[Plan.LEAST]);
        return parcels.size;
    }

    public int parcel(int ballot, int i, int what) {
        Ballot asked = ballotAt(ballot);
        if (asked == null || i < 0 || !isWithin(what, 0, 3)) {
            return BAD;
        }
        parcels.gather(asked, plan.rules[Plan.LEAST]);
        if (i >= parcels.size) {
            return NONE;
        }
        switch (what) {
            case 0: return parcels.bits[i];
            case 1: return parcels.returned[i];
            case 2: return parcels.yes[i];
            default: return parcels.no[i];
        }
    }

    // ---- the law

    public int feed(int a, int b, int c) {
        if (tape.length + 12 > Tape.ROOM) {
            return FULL;
        }
        tape.addFour(a);
        tape.addFour(b);
        tape.addFour(c);
        return tape.length;
    }

    public int trim(int n) {
        if (!isWithin(n, 0, tape.length)) {
            return BAD;
        }
        tape.length = n;
        return n;
    }

    public int law() {
        boolean isWell = draft.readTape();
        tape.length = 0;
        if (!isWell) {
            return -100 - tape.start;
        }
        Law before = law;
        law = draft;
        draft = before;
        hasLaw = true;
        return law.operands;
    }

    public int says(int ballot, int which, int day) {
        Ballot asked = ballotAt(ballot);
        if (asked == null || !isWithin(which, 0, 1) || !isKnownDay(asked, day)) {
            return BAD;
        }
        if (!hasLaw) {
            return NO;
        }
        return lawFor(asked, which == 0 ? Law.STANDS : Law.LIFE, day);
    }

    public int stands(int ballot, int day) {
        Ballot asked = ballotAt(ballot);
        if (asked == null || !isKnownDay(asked, day)) {
            return BAD;
        }
        return oneIf(isStanding(asked, day));
    }

    public int lives(int ballot, int day) {
        Ballot asked = ballotAt(ballot);
        if (asked == null || !isWithin(day, 0, LAST_DAY)) {
            return BAD;
        }
        if (!asked.hasClosed()) {
            return NO;
        }
        return oneIf(isLiving(asked, day));
    }

    public int cure(int ballot) {
        Ballot asked = ballotAt(ballot);
        if (asked == null) {
            return BAD;
        }
        if (!hasLaw || lawFor(asked, Law.STANDS, union.today) != 0) {
            return NO;
        }
        int sent = names.valueOf('p');
        int missed = names.valueOf('m');
        for (int more = 0; more <= missed; more++) {
            names.put('p', sent + more);
            names.put('m', missed - more);
            if (law.valueOf(Law.STANDS, names) != 0) {
                return more;
            }
        }
        return NONE;
    }

    // ---- notices

    public int notice(int ballot, int first, int low, int high) {
        Ballot meant = ballotAt(ballot);
        if (meant == null || !isWithin(first, union.today, LAST_DAY) || !isHalfList(low) || !isHalfList(high)) {
            return BAD;
        }
        long list = low | (long) high << MEMBERS_IN_A_NUMBER;
        if (list >> union.memberCount != 0) {
            return BAD;
        }
        if (noticeCount >= MOST_NOTICES) {
            return FULL;
        }
        Notice given = new Notice(ballot, union.today, first);
        given.wrong = union.wrongIn(list, meant.branches);
        given.listed = Long.bitCount(list);
        notices[noticeCount] = given;
        noticeCount++;
        return noticeCount - 1;
    }

    public int noticed(int notice, int what) {
        Notice asked = noticeAt(notice);
        if (asked == null) {
            return BAD;
        }
        switch (what) {
            case 0: return asked.ballot;
            case 1: return asked.given;
            case 2: return asked.first;
            case 3: return asked.wrong;
            case 4: return asked.listed;
            default: return BAD;
        }
    }

    public int holds(int notice) {
        Notice asked = noticeAt(notice);
        if (asked == null) {
            return BAD;
        }
        Ballot meant = ballotAt(asked.ballot);
        if (meant == null || !isLiving(meant, asked.first)) {
            return 0;
        }
        meant.tellNames(names, asked.given);
        names.put('a', asked.first - asked.given);
        names.put('l', asked.wrong);
        names.put('c', asked.listed);
        return oneIf(law.valueOf(Law.NOTICE, names) != 0);
    }

    // ---- strikes

    public int harm(int i, int v) {
        if (!isWithin(i, 0, Plan.MOST_DAYS - 1) || !isWithin(v, 0, Plan.MOST_HARM)) {
            return BAD;
        }
        int before = plan.harms[i];
        plan.harms[i] = v;
        return before;
    }

    public int lay(int sheet) {
        Sheet from = sheetAt(sheet);
        if (from == null) {
            return BAD;
        }
        return from.isMissing() ? NOTHING : plan.takeHarms(from);
    }

    public int rule(int which, int v) {
        if (!isWithin(which, 0, Plan.LEAST) || !isWithin(v, Plan.LOWEST[which], Plan.HIGHEST[which])) {
            return BAD;
        }
        int before = plan.rules[which];
        plan.rules[which] = v;
        return before;
    }

    public int plan(int ballot, int n) {
        return makePlan(ballot, n) ? plan.bestHarm : BAD;
    }

    public int planned(int ballot, int n) {
        return makePlan(ballot, n) ? plan.best : BAD;
    }

    public int cost(int ballot) {
        Ballot asked = ballotAt(ballot);
        return asked == null ? BAD : union.strikePay(asked.branches, plan.rules[Plan.PART]);
    }

    public int tell(int v) {
        if (plan.waitingCount >= Plan.MOST_WAITING) {
            return FULL;
        }
        plan.waiting[plan.waitingCount] = v;
        plan.waitingCount++;
        return plan.waitingCount;
    }

    public int check(int ballot, int n) {
        int waited = plan.waitingCount;
        plan.waitingCount = 0;
        return makePlan(ballot, n) ? plan.compareRows(waited) : BAD;
    }

    public int docked(int member, int minutes) {
        Member asked = union.memberAt(member);
        if (asked == null || !isWithin(minutes, 0, MOST_MINUTES)) {
            return BAD;
        }
        return Math.max(0, asked.dayWage() - asked.wage * minutes / 60);
    }

    // ---- sheets

    public int sheet(int s, int n) {
        Sheet made = sheetAt(s);
        if (made == null || n > Sheet.MOST_PLACES) {
            return BAD;
        }
        if (n < 0) {
            return SIZE;
        }
        made.clearTo(n);
        return n;
    }

    public int mark(int s, int place, int v) {
        Sheet marked = sheetAt(s);
        if (marked == null) {
            return BAD;
        }
        if (marked.isMissing()) {
            return NOTHING;
        }
        if (!isWithin(place, 0, marked.size - 1)) {
            return INDEX;
        }
        int before = marked.places[place];
        marked.places[place] = (short) v;
        return before;
    }

    public int copy(int from, int place, int to, int at, int many) {
        Sheet source = sheetAt(from);
        Sheet target = sheetAt(to);
        if (source == null || target == null) {
            return BAD;
        }
        if (source.isMissing() || target.isMissing()) {
            return NOTHING;
        }
        if (!source.hasPlaces(place, many) || !target.hasPlaces(at, many)) {
            return INDEX;
        }
        System.arraycopy(source.places, place, target.places, at, many);
        return many;
    }

    public int count(int what) {
        switch (what) {
            case 0: return union.branchCount;
            case 1: return union.memberCount;
            case 2: return union.stayers();
            case 3: return roll.lineCount;
            case 4: return ballotCount;
            case 5: return noticeCount;
            case 6: return union.today;
            case 7: return plan.waitingCount;
            case 8: return tape.length;
            default: return BAD;
        }
    }

    // ---- what the calls share

    private static boolean isWithin(int v, int least, int most) {
        return v >= least && v <= most;
    }

    private static int oneIf(boolean holdsTrue) {
        return holdsTrue ? 1 : 0;
    }

    private static int dayOrNone(int day) {
        return day == NEVER ? NONE : day;
    }

    private static boolean isMark(int v) {
        return isWithin(v, 0, LAST_MARK);
    }

    private static boolean isLetter(int v) {
        return v >= 'a' && v <= 'z';
    }

    private static boolean isHalfList(int bits) {
        return bits >= 0 && bits >> MEMBERS_IN_A_NUMBER == 0;
    }

    private boolean isKnownDay(Ballot ballot, int day) {
        return isWithin(day, ballot.day, union.today);
    }

    private Ballot ballotAt(int number) {
        return isWithin(number, 0, ballotCount - 1) ? ballots[number] : null;
    }

    private Notice noticeAt(int number) {
        return isWithin(number, 0, noticeCount - 1) ? notices[number] : null;
    }

    private Sheet sheetAt(int number) {
        if (number == 0) {
            return firstSheet;
        }
        return number == 1 ? secondSheet : null;
    }

    private int lawFor(Ballot ballot, int which, int day) {
        ballot.tellNames(names, day);
        return law.valueOf(which, names);
    }

    private boolean isStanding(Ballot ballot, int day) {
        return hasLaw && ballot.closing <= day && lawFor(ballot, Law.STANDS, day) != 0;
    }

    private boolean isLiving(Ballot ballot, int day) {
        int from = ballot.closing;
        return hasLaw && from <= day && lawFor(ballot, Law.STANDS, from) != 0
                && day - from <= lawFor(ballot, Law.LIFE, from);
    }

    private boolean makePlan(int ballot, int n) {
        Ballot meant = ballotAt(ballot);
        if (meant == null || !isWithin(n, 1, Plan.MOST_DAYS)) {
            return false;
        }
        int pay = union.strikePay(meant.branches, plan.rules[Plan.PART]);
        // That no vital day stands right behind another one is a run of 1 at most, whatever RUN says.
        int longest = union.strikesVital(meant.branches) ? 1 : plan.rules[Plan.RUN];
        plan.make(n, pay, longest);
        return true;
    }

    /** The branches, the members and the day that it is. */
    private static final class Union {
        private static final int WORK = 0, VITAL = 1, HEALTH = 2, YARD = 3;

        private final int[] kinds = new int[MOST_BRANCHES];
        private int branchCount;
        private final Member[] members = new Member[MOST_MEMBERS];
        private int memberCount;
        private int today;

        static boolean isKind(int kind) {
            return isWithin(kind, WORK, YARD);
        }

        int addBranch(int kind) {
            if (branchCount >= MOST_BRANCHES) {
                return FULL;
            }
            kinds[branchCount] = kind;
            branchCount++;
            return branchCount - 1;
        }

        boolean hasBranch(int branch) {
            return isWithin(branch, 0, branchCount - 1);
        }

        boolean isBranchOf(int branch, int kind) {
            if (!hasBranch(branch)) {
                return false;
            }
            int own = kinds[branch];
            return kind == WORK || kind == own || kind == VITAL && own == HEALTH;
        }

        boolean hasVital(int branches) {
            for (int i = 0; i < branchCount; i++) {
                if ((branches >> i & 1) == 1 && isBranchOf(i, VITAL)) {
                    return true;
                }
            }
            return false;
        }

        int addMember(Member comer) {
            if (memberCount >= MOST_MEMBERS) {
                return FULL;
            }
            members[memberCount] = comer;
            memberCount++;
            return memberCount - 1;
        }

        Member memberAt(int number) {
            return isWithin(number, 0, memberCount - 1) ? members[number] : null;
        }

        int branchOn(int number, int day) {
            Member asked = memberAt(number);
            return asked == null ? NONE : asked.branchOn(day);
        }

        boolean isAmong(int number, int branches, int day) {
            int branch = branchOn(number, day);
            return branch >= 0 && (branches >> branch & 1) == 1;
        }

        int sizeOf(int branch) {
            int size = 0;
            for (int i = 0; i < memberCount; i++) {
                size += oneIf(branchOn(i, today) == branch);
            }
            return size;
        }

        int stayers() {
            int stay = 0;
            for (int i = 0; i < memberCount; i++) {
                Member asked = memberAt(i);
                stay += oneIf(asked != null && !asked.hasLeft());
            }
            return stay;
        }

        int wrongIn(long list, int branches) {
            int wrong = 0;
            for (int i = 0; i < memberCount; i++) {
                boolean isListed = (list >> i & 1) == 1;
                wrong += oneIf(isListed != isAmong(i, branches, today));
            }
            return wrong;
        }

        int strikePay(int branches, int part) {
            int pay = 0;
            for (int i = 0; i < memberCount; i++) {
                Member striker = memberAt(i);
                if (striker != null && isAmong(i, branches, today)) {
                    pay += striker.dayWage() * part / 100;
                }
            }
            return pay;
        }

        boolean strikesVital(int branches) {
            for (int i = 0; i < memberCount; i++) {
                if (isAmong(i, branches, today) && isBranchOf(branchOn(i, today), VITAL)) {
                    return true;
                }
            }
            return false;
        }
    }

    /** A member with all moves, since ballots and questions look back to earlier days. */
    private static final class Member {
        private static final int MOST_MOVES = 6;
        private static final int WORK_DAYS = 5;

        private final int ownMark;
        private final int hours;
        private final int wage;
        private final int came;
        private int left = NEVER;
        private final int firstBranch;
        private final int[] moveDays = new int[MOST_MOVES];
        private final int[] moveBranches = new int[MOST_MOVES];
        private int moves;

        Member(int ownMark, int firstBranch, int hours, int wage, int came) {
            this.ownMark = ownMark;
            this.firstBranch = firstBranch;
            this.hours = hours;
            this.wage = wage;
            this.came = came;
        }

        boolean hasLeft() {
            return left != NEVER;
        }

        int lastBranch() {
            return moves == 0 ? firstBranch : moveBranches[moves - 1];
        }

        int branchOn(int day) {
            if (day < came || left <= day) {
                return NONE;
            }
            int branch = firstBranch;
            for (int i = 0; i < moves; i++) {
                if (moveDays[i] <= day) {
                    branch = moveBranches[i];
                }
            }
            return branch;
        }

        boolean goTo(int branch, int today) {
            if (moves >= MOST_MOVES) {
                return false;
            }
            moveDays[moves] = today;
            moveBranches[moves] = branch;
            moves++;
            return true;
        }

        int dayWage() {
            return hours * wage / WORK_DAYS;
        }
    }

    /** The employers' lines, and the members with whom they are joined. */
    private static final class Roll {
        /** In how many figures the marks of a line and its member differ. */
        private static final int SAME = 0, NEARLY = 1;
        private static final int FIGURES = 4;

        private final Union union;
        private final int[] marks = new int[MOST_LINES];
        private final int[] branches = new int[MOST_LINES];
        private int lineCount;
        private final int[] partners = new int[MOST_LINES];
        private final int[] differences = new int[MOST_LINES];
        private long taken;

        Roll(Union union) {
            this.union = union;
        }

        boolean isFull() {
            return lineCount >= MOST_LINES;
        }

        int addLine(int mark, int branch) {
            if (isFull()) {
                return FULL;
            }
            marks[lineCount] = mark;
            branches[lineCount] = branch;
            lineCount++;
            return lineCount - 1;
        }

        int addLines(Sheet from, int branch) {
            int before = lineCount;
            for (int i = 0; i < from.size && !isFull(); i++) {
                if (isMark(from.places[i])) {
                    addLine(from.places[i], branch);
                }
            }
            return lineCount - before;
        }

        /** Made anew for each question: members come, move and leave between them. */
        void join() {
            Arrays.fill(partners, NONE);
            taken = 0;
            joinThoseWith(SAME);
            joinThoseWith(NEARLY);
        }

        private void joinThoseWith(int difference) {
            for (int i = 0; i < lineCount; i++) {
                int partner = partners[i] == NONE ? partnerFor(i, difference) : NONE;
                if (partner != NONE) {
                    partners[i] = partner;
                    differences[i] = difference;
                    taken |= 1L << partner;
                }
            }
        }

        private int partnerFor(int line, int difference) {
            for (int i = 0; i < union.memberCount; i++) {
                Member asked = union.memberAt(i);
                if (asked != null && (taken >> i & 1) == 0
                        && asked.branchOn(union.today) == branches[line]
                        && differingFigures(asked.ownMark, marks[line]) == difference) {
                    return i;
                }
            }
            return NONE;
        }

        private static int differingFigures(int one, int other) {
            int differing = 0;
            for (int i = 0; i < FIGURES; i++) {
                differing += oneIf(one % 10 != other % 10);
                one /= 10;
                other /= 10;
            }
            return differing;
        }

        int linesOf(int branch) {
            int lines = 0;
            for (int i = 0; i < lineCount; i++) {
                lines += oneIf(branches[i] == branch);
            }
            return lines;
        }

        int joinedLinesOf(int branch, int difference) {
            int lines = 0;
            for (int i = 0; i < lineCount; i++) {
                boolean isJoinedSo = partners[i] != NONE && differences[i] == difference;
                lines += oneIf(isJoinedSo && branches[i] == branch);
            }
            return lines;
        }

        int membersWithout(int branch) {
            int without = 0;
            for (int i = 0; i < union.memberCount; i++) {
                boolean isFree = (taken >> i & 1) == 0;
                without += oneIf(isFree && union.branchOn(i, union.today) == branch);
            }
            return without;
        }
    }

    /** A ballot with the day on which each thing was told of each paper, so that it can be seen as known on a day. */
    private static final class Ballot {
        private static final int BACK = 0, YES = 1, AGAINST = 2, SPOILT = 3;

        private final Union union;
        private final int branches;
        private final int day;
        private int closing = NEVER;
        private int papers;
        private final int[] sentOn = new int[MOST_MEMBERS];
        private final int[] heardOn = new int[MOST_MEMBERS];
        private final int[] hows = new int[MOST_MEMBERS];

        Ballot(Union union, int branches) {
            this.union = union;
            this.branches = branches;
            this.day = union.today;
            Arrays.fill(sentOn, NEVER);
            Arrays.fill(heardOn, NEVER);
        }

        boolean hasClosed() {
            return closing != NEVER;
        }

        boolean hasSent(int member) {
            return isWithin(member, 0, MOST_MEMBERS - 1) && sentOn[member] != NEVER;
        }

        boolean hasHeard(int member) {
            return isWithin(member, 0, MOST_MEMBERS - 1) && heardOn[member] != NEVER;
        }

        void post(int member) {
            if (isWithin(member, 0, MOST_MEMBERS - 1)) {
                sentOn[member] = union.today;
                papers++;
            }
        }

        int postToMissed() {
            int before = papers;
            for (int i = 0; i < union.memberCount; i++) {
                if (!hasSent(i) && union.isAmong(i, branches, day)) {
                    post(i);
                }
            }
            return papers - before;
        }

        void hear(int member, int how) {
            if (isWithin(member, 0, MOST_MEMBERS - 1)) {
                heardOn[member] = union.today;
                hows[member] = how;
            }
        }

        /** Who is entitled is asked anew each time: on the ballot's own day members may still come, move and leave. */
        void tellNames(Names names, int known) {
            names.clear();
            for (int i = 0; i < union.memberCount && i < MOST_MEMBERS; i++) {
                if (union.isAmong(i, branches, day)) {
                    tellEntitled(names, i, known);
                } else if (sentOn[i] <= known) {
                    names.addOne('x');
                }
            }
            names.put('v', oneIf(union.hasVital(branches)));
            names.put('d', known - day);
        }

        private void tellEntitled(Names names, int member, int known) {
            names.addOne('e');
            names.addOne(sentOn[member] <= known ? 'p' : 'm');
            if (heardOn[member] > known) {
                return;
            }
            names.addOne(hows[member] == BACK ? 'b' : 'r');
            if (hows[member] == YES) {
                names.addOne('y');
            } else if (hows[member] == AGAINST) {
                names.addOne('n');
            }
        }

        boolean hasBranch(int branch) {
            return isWithin(branch, 0, MOST_BRANCHES - 1) && (branches >> branch & 1) == 1;
        }

        int entitledOf(int branch) {
            int entitled = 0;
            for (int i = 0; i < union.memberCount; i++) {
                entitled += oneIf(union.branchOn(i, day) == branch);
            }
            return entitled;
        }

        /** How many of a branch's entitled ones gave a paper back so. */
        int heardOf(int branch, int how) {
            int heard = 0;
            for (int i = 0; i < union.memberCount && i < MOST_MEMBERS; i++) {
                heard += oneIf(hasHeard(i) && hows[i] == how && union.branchOn(i, day) == branch);
            }
            return heard;
        }
    }

    /** A ballot's returned papers, told of so many branches together that none is too small. */
    private static final class Parcels {
        private final int[] bits = new int[MOST_BRANCHES];
        private final int[] returned = new int[MOST_BRANCHES];
        private final int[] yes = new int[MOST_BRANCHES];
        private final int[] no = new int[MOST_BRANCHES];
        private int size;

        void gather(Ballot ballot, int least) {
            size = 0;
            for (int i = 0; i < MOST_BRANCHES; i++) {
                if (ballot.hasBranch(i) && ballot.entitledOf(i) > 0) {
                    if (size == 0 || returned[size - 1] >= least) {
                        begin();
                    }
                    addBranch(ballot, i);
                }
            }
            if (size > 1 && returned[size - 1] < least) {
                joinLastTwo();
            }
        }

        private void begin() {
            if (size < MOST_BRANCHES) {
                bits[size] = 0;
                returned[size] = 0;
                yes[size] = 0;
                no[size] = 0;
                size++;
            }
        }

        private void addBranch(Ballot ballot, int branch) {
            int last = size - 1;
            if (last < 0) {
                return;
            }
            int pro = ballot.heardOf(branch, Ballot.YES);
            int contra = ballot.heardOf(branch, Ballot.AGAINST);
            bits[last] |= 1 << branch;
            returned[last] += pro + contra + ballot.heardOf(branch, Ballot.SPOILT);
            yes[last] += pro;
            no[last] += contra;
        }

        private void joinLastTwo() {
            int last = size - 1;
            if (last < 1) {
                return;
            }
            bits[last - 1] |= bits[last];
            returned[last - 1] += returned[last];
            yes[last - 1] += yes[last];
            no[last - 1] += no[last];
            size--;
        }
    }

    /** What the law's names stand for, by letter. */
    private static final class Names {
        private static final int LETTERS = 26;

        private final int[] values = new int[LETTERS];

        void clear() {
            Arrays.fill(values, 0);
        }

        void put(char letter, int v) {
            if (isLetter(letter)) {
                values[letter - 'a'] = v;
            }
        }

        void addOne(char letter) {
            if (isLetter(letter)) {
                values[letter - 'a']++;
            }
        }

        int valueOf(char letter) {
            return isLetter(letter) ? values[letter - 'a'] : 0;
        }
    }

    /** The bytes that were fed, and the word or sign among them at which a reader stands. */
    private static final class Tape {
        private static final int ROOM = 108;
        private static final int LONGEST_NUMBER = 4;
        private static final int END = 0, WORD = 1, DIGITS = 2, SIGN = 3, STUCK = 4;

        private final int[] bytes = new int[ROOM];
        private int length;
        private int start;
        private int end;
        private int sort;

        void addFour(int four) {
            for (int shift = 24; shift >= 0 && length < ROOM; shift -= 8) {
                bytes[length] = four >>> shift & 255;
                length++;
            }
        }

        void rewind() {
            end = 0;
            goOn();
        }

        void goOn() {
            int before = end;
            start = before;
            while (start < length && byteAt(start) == ' ') {
                start++;
            }
            sort = sortAt(start);
            end = start + oneIf(sort != END);
            while (end < length && isRow(sort) && sortAt(end) == sort) {
                end++;
            }
            // Nothing reads a word of this sort, so that a word without the blank it needs is a fault where it begins.
            if (isRow(sort) && start == before && isRow(sortAt(before - 1))) {
                sort = STUCK;
            }
        }

        private int byteAt(int place) {
            return place >= 0 && place < length && place < ROOM ? bytes[place] : -1;
        }

        private int sortAt(int place) {
            int b = byteAt(place);
            if (b < 0) {
                return END;
            }
            if (isLetter(b)) {
                return WORD;
            }
            return b >= '0' && b <= '9' ? DIGITS : SIGN;
        }

        private static boolean isRow(int sort) {
            return sort == WORD || sort == DIGITS;
        }

        boolean isAtEnd() {
            return sort == END;
        }

        boolean isAtWord(String word) {
            if (sort != WORD || end - start != word.length()) {
                return false;
            }
            for (int i = 0; i < word.length(); i++) {
                if (byteAt(start + i) != word.charAt(i)) {
                    return false;
                }
            }
            return true;
        }

        /** The sign at hand; 0, which is no sign of the law, if there is none. */
        char signAtHand() {
            return sort == SIGN ? (char) byteAt(start) : 0;
        }

        /** The word at hand, if it is one letter; else 0. */
        char letterAtHand() {
            return sort == WORD && end - start == 1 ? (char) byteAt(start) : 0;
        }

        /** The number at hand; -1, if there is none that the law may have. */
        int numberAtHand() {
            if (sort != DIGITS || end - start > LONGEST_NUMBER) {
                return -1;
            }
            int number = 0;
            for (int i = start; i < end; i++) {
                number = number * 10 + byteAt(i) - '0';
            }
            return number;
        }
    }

    /** A law's three expressions, each as a row of steps in which the signs stand behind what they work on. */
    private static final class Law {
        private static final int STANDS = 0, NOTICE = 1, LIFE = 2;
        private static final int PARTS = 3;
        private static final String BALLOT_NAMES = "epmxbrynvd";
        private static final String NOTICE_NAMES = "alc";
        /** The levels of an expression, the loosest first; behind the last one stands a PART. */
        private static final int OR = 0, AND = 1, TEST = 2, SUM = 3, TERM = 4, PART = 5;
        /** How many ( may be open at once, and how many !. */
        private static final int DEEPEST = 8;
        /** A step is a number as it is, a name above this one, or a sign below 0. */
        private static final int NAME = 10000;

        private final int[] steps = new int[Tape.ROOM];
        private int stepCount;
        private final int[] ends = new int[PARTS];
        private int operands;
        private final Tape tape;
        private int reading;
        private final int[] stack = new int[Tape.ROOM];
        private int height;

        Law(Tape tape) {
            this.tape = tape;
        }

        static boolean isBallotName(char letter) {
            return BALLOT_NAMES.indexOf(letter) >= 0;
        }

        /** Whether the tape holds a law; if it does not, it stands at the fault. */
        boolean readTape() {
            stepCount = 0;
            operands = 0;
            tape.rewind();
            return readSection("stands", STANDS) && readSection("notice", NOTICE) && readSection("life", LIFE)
                    && tape.isAtEnd();
        }

        private boolean readSection(String head, int which) {
            if (!tape.isAtWord(head)) {
                return false;
            }
            tape.goOn();
            reading = which;
            boolean isWell = readLevel(OR, 0, 0);
            ends[which] = stepCount;
            return isWell;
        }

        private boolean readLevel(int level, int parens, int bangs) {
            if (level >= PART) {
                return readPart(parens, bangs);
            }
            boolean isWell = readLevel(level + 1, parens, bangs);
            int mostSigns = level == TEST ? 1 : Tape.ROOM;
            for (int i = 0; i < mostSigns && isWell && levelOf(tape.signAtHand()) == level; i++) {
                char sign = tape.signAtHand();
                tape.goOn();
                isWell = readLevel(level + 1, parens, bangs);
                write(-sign);
            }
            return isWell;
        }

        private boolean readPart(int parens, int bangs) {
            int operand = operandAtHand();
            if (operand >= 0) {
                write(operand);
                operands++;
                tape.goOn();
                return true;
            }
            char sign = tape.signAtHand();
            if (sign == '!' && bangs < DEEPEST) {
                tape.goOn();
                boolean isWell = readPart(parens, bangs + 1);
                write(-sign);
                return isWell;
            }
            if (sign == '(' && parens < DEEPEST) {
                tape.goOn();
                boolean isWell = readLevel(OR, parens + 1, bangs) && tape.signAtHand() == ')';
                if (isWell) {
                    tape.goOn();
                }
                return isWell;
            }
            return false;
        }

        /** The step for a number or a name at hand; -1, if there is none that may stand here. */
        private int operandAtHand() {
            char letter = tape.letterAtHand();
            return isNameHere(letter) ? NAME + letter : tape.numberAtHand();
        }

        private boolean isNameHere(char letter) {
            return isBallotName(letter) || reading == NOTICE && NOTICE_NAMES.indexOf(letter) >= 0;
        }

        private static int levelOf(char sign) {
            switch (sign) {
                case '|': return OR;
                case '&': return AND;
                case '<': case '=': case '>': return TEST;
                case '+': case '-': return SUM;
                case '*': case '/': return TERM;
                default: return -1;
            }
        }

        private void write(int step) {
            if (stepCount < steps.length) {
                steps[stepCount] = step;
                stepCount++;
            }
        }

        int valueOf(int which, Names names) {
            if (!isWithin(which, STANDS, LIFE)) {
                return 0;
            }
            height = 0;
            int from = which == STANDS ? 0 : ends[which - 1];
            for (int i = from; i < ends[which] && i < steps.length; i++) {
                work(steps[i], names);
            }
            return pop();
        }

        private void work(int step, Names names) {
            if (step >= NAME) {
                push(names.valueOf((char) (step - NAME)));
            } else if (step >= 0) {
                push(step);
            } else if (step == -'!') {
                push(oneIf(pop() == 0));
            } else {
                int right = pop();
                int left = pop();
                push(apply((char) -step, left, right));
            }
        }

        private static int apply(char sign, int left, int right) {
            switch (sign) {
                case '|': return oneIf(left != 0 || right != 0);
                case '&': return oneIf(left != 0 && right != 0);
                case '<': return oneIf(left < right);
                case '=': return oneIf(left == right);
                case '>': return oneIf(left > right);
                case '+': return left + right;
                case '-': return left - right;
                case '*': return left * right;
                default: return right == 0 ? 0 : left / right;
            }
        }

        private void push(int v) {
            if (height < stack.length) {
                stack[height] = v;
                height++;
            }
        }

        private int pop() {
            if (height == 0) {
                return 0;
            }
            height--;
            return stack[height];
        }
    }

    /** A notice, with what was true of its list when it was given. */
    private static final class Notice {
        private final int ballot;
        private final int given;
        private final int first;
        private int wrong;
        private int listed;

        Notice(int ballot, int given, int first) {
            this.ballot = ballot;
            this.given = given;
            this.first = first;
        }
    }

    /** The harm of days and the rules, the plan that was made last from them, and the numbers that wait to be checked. */
    private static final class Plan {
        private static final int MOST_DAYS = 12;
        private static final int MOST_HARM = 999;
        private static final int MOST_WAITING = 30;
        private static final int FUND = 0, PART = 1, GAIN = 2, RUN = 3, LEAST = 4;
        private static final int[] LOWEST = {0, 0, 0, 1, 1};
        private static final int[] HIGHEST = {1000000, 100, 9999, 12, 20};

        private final int[] harms = new int[MOST_DAYS];
        private final int[] rules = {0, 50, 0, 3, 3};
        private final int[] waiting = new int[MOST_WAITING];
        private int waitingCount;
        /** All harm from a day on: what a set that is chosen up to that day may gain at most. */
        private final int[] harmFrom = new int[MOST_DAYS + 1];
        private int length;
        private int pay;
        private int longest;
        private int best;
        private int bestHarm;

        int takeHarms(Sheet from) {
            int many = Math.min(MOST_DAYS, from.size);
            for (int i = 0; i < many; i++) {
                int v = from.places[i];
                harms[i] = isWithin(v, 0, MOST_HARM) ? v : 0;
            }
            return many;
        }

        void make(int days, int payEachDay, int longestRun) {
            length = Math.min(days, MOST_DAYS);
            pay = payEachDay;
            longest = longestRun;
            best = 0;
            bestHarm = 0;
            harmFrom[MOST_DAYS] = 0;
            for (int i = MOST_DAYS - 1; i >= 0; i--) {
                harmFrom[i] = i < length ? harmFrom[i + 1] + harms[i] : 0;
            }
            choose(0, 0, 0, rules[FUND], 0);
        }

        /** Goes on from a set of the days ahead of this one, with its harm, the fund then and the days of strike right behind. */
        private void choose(int day, int set, int harm, int fund, int run) {
            if (day >= length || day >= MOST_DAYS) {
                keepBetter(set, harm);
                return;
            }
            if (harm + harmFrom[day] < bestHarm) {
                return;
            }
            int later = fund + rules[GAIN];
            // A day without harm is never chosen: a set that may be still may be with one day less.
            if (harms[day] > 0 && run < longest && fund >= pay) {
                choose(day + 1, set | 1 << day, harm + harms[day], later - pay, run + 1);
            }
            choose(day + 1, set, harm, later, 0);
        }

        private void keepBetter(int set, int harm) {
            int fewer = Integer.bitCount(best) - Integer.bitCount(set);
            boolean isFirst = fewer > 0 || fewer == 0 && set < best;
            if (harm > bestHarm || harm == bestHarm && isFirst) {
                best = set;
                bestHarm = harm;
            }
        }

        int compareRows(int waited) {
            int fund = rules[FUND];
            for (int i = 0; i < length; i++) {
                int strike = best >> i & 1;
                fund += rules[GAIN] - strike * pay;
                if (!isTold(2 * i, strike, waited)) {
                    return 1 + 2 * i;
                }
                if (!isTold(2 * i + 1, fund, waited)) {
                    return 2 + 2 * i;
                }
            }
            return waited > 2 * length ? 1 + 2 * length : 0;
        }

        private boolean isTold(int place, int due, int waited) {
            return place < waited && place < MOST_WAITING && waiting[place] == due;
        }
    }

    /** A row of shorts. */
    private static final class Sheet {
        private static final int MOST_PLACES = 40;
        private static final int MISSING = -1;

        private final short[] places = new short[MOST_PLACES];
        private int size = MISSING;

        boolean isMissing() {
            return size == MISSING;
        }

        void clearTo(int many) {
            Arrays.fill(places, (short) 0);
            size = many;
        }

        /** None at all may be had at the end, too. */
        boolean hasPlaces(int from, int many) {
            return from >= 0 && many >= 0 && from <= size && many <= size - from;
        }
    }
}
