/** Promises 28 to 33: when a ballot stands and lives, its cure, and which notices hold. */
public final class StandingTest {
    private static final Checks c = new Checks();

    public static void main(String[] args) {
        standing();
        living();
        withoutLaw();
        curing();
        notices();
        wrongNotices();
        holding();
        holdingAsKnown();
        c.end();
    }

    private static StrikeBallots union(int members) {
        StrikeBallots x = new StrikeBallots();
        x.branch(0);
        x.branch(0);
        for (int i = 0; i < members; i++) {
            x.member(i, 0, 10, 10);
        }
        return x;
    }

    private static void standing() {
        StrikeBallots x = union(4);
        Checks.lawOf(x, "stands y>n & r*2>e notice 1 life 30");
        x.days(1);
        x.open(1);
        x.sendAll(0);
        x.back(0, 0, 1);
        x.back(0, 1, 1);
        x.days(1);
        x.back(0, 2, 2);
        c.due("stands, not closed", x.stands(0, 2), 0);
        x.days(1);
        x.close(0);
        x.days(1);
        c.due("stands on the day of closing", x.stands(0, 3), 1);
        c.due("stands behind it", x.stands(0, 4), 1);
        c.due("stands ahead of it", x.stands(0, 2), 0);
        c.due("stands(0, 0)", x.stands(0, 0), Checks.BAD);
        c.due("stands(0, 1)", x.stands(0, 1), 0);
        c.due("stands(0, 5)", x.stands(0, 5), Checks.BAD);
        c.due("stands(1, 4)", x.stands(1, 4), Checks.BAD);
        c.due("stands(-1, 4)", x.stands(-1, 4), Checks.BAD);
        Checks.lawOf(x, "stands d>2 notice 1 life 30");
        c.due("stands by days, on 3", x.stands(0, 3), 0);
        c.due("stands by days, on 4", x.stands(0, 4), 1);
        Checks.lawOf(x, "stands 0-1 notice 1 life 30");
        c.due("stands by what is below 0", x.stands(0, 4), 1);
    }

    private static void living() {
        StrikeBallots x = union(2);
        Checks.lawOf(x, "stands d<3 notice 1 life 10+d");
        x.open(1);
        x.days(2);
        c.due("lives, not closed", x.lives(0, 2), Checks.NO);
        c.due("lives on 401, not closed", x.lives(0, 401), Checks.BAD);
        x.close(0);
        x.days(20);
        c.due("lives ahead of closing", x.lives(0, 1), 0);
        c.due("lives on the day of closing", x.lives(0, 2), 1);
        c.due("lives on its last day", x.lives(0, 14), 1);
        c.due("lives behind it", x.lives(0, 15), 0);
        c.due("it does not stand any more", x.stands(0, 3), 0);
        c.due("but lives, since it stood at closing", x.lives(0, 3), 1);
        c.due("lives(0, 400)", x.lives(0, 400), 0);
        c.due("lives(0, 401)", x.lives(0, 401), Checks.BAD);
        c.due("lives(0, 0)", x.lives(0, 0), 0);
        c.due("lives(0, -1)", x.lives(0, -1), Checks.BAD);
        c.due("lives(1, 0)", x.lives(1, 0), Checks.BAD);
        Checks.lawOf(x, "stands 1 notice 1 life 9999");
        c.due("a long life", x.lives(0, 400), 1);
        Checks.lawOf(x, "stands 1 notice 1 life 0");
        c.due("a life of a day", x.lives(0, 2), 1);
        c.due("and no longer", x.lives(0, 3), 0);
        Checks.lawOf(x, "stands 1 notice 1 life 0-1");
        c.due("no life", x.lives(0, 2), 0);
        Checks.lawOf(x, "stands d>2 notice 1 life 99");
        c.due("it stands now", x.stands(0, 22), 1);
        c.due("but not at closing", x.lives(0, 22), 0);
    }

    private static void withoutLaw() {
        StrikeBallots x = union(1);
        x.open(1);
        c.due("cure without a law", x.cure(0), Checks.NO);
        c.due("cure of no ballot without a law", x.cure(1), Checks.BAD);
        x.close(0);
        x.notice(0, 0, 1, 0);
        c.due("stands without a law", x.stands(0, 0), 0);
        c.due("lives without a law", x.lives(0, 0), 0);
        c.due("holds without a law", x.holds(0), 0);
    }

    private static void curing() {
        StrikeBallots x = union(10);
        x.open(1);
        x.send(0, 0);
        Checks.lawOf(x, "stands m<4 notice 1 life 1");
        c.due("cure", x.cure(0), 6);
        c.due("cure again: nothing was sent", x.cure(0), 6);
        Checks.lawOf(x, "stands p=4 notice 1 life 1");
        c.due("cure by an exact number", x.cure(0), 3);
        Checks.lawOf(x, "stands m=0 notice 1 life 1");
        c.due("cure by all", x.cure(0), 9);
        Checks.lawOf(x, "stands p>10 notice 1 life 1");
        c.due("no cure", x.cure(0), Checks.NONE);
        Checks.lawOf(x, "stands r>0 notice 1 life 1");
        c.due("no cure by returned ones", x.cure(0), Checks.NONE);
        Checks.lawOf(x, "stands p notice 1 life 1");
        c.due("no need of a cure, though it is open", x.cure(0), Checks.NO);
        Checks.lawOf(x, "stands m<4 notice 1 life 1");
        x.close(0);
        c.due("cure of a closed one", x.cure(0), 6);
        x.days(3);
        Checks.lawOf(x, "stands p=2&d=3 notice 1 life 1");
        c.due("cure as of today", x.cure(0), 1);
        c.due("cure(1)", x.cure(1), Checks.BAD);
        c.due("cure(-1)", x.cure(-1), Checks.BAD);
        x.open(1);
        x.sendAll(1);
        Checks.lawOf(x, "stands 0 notice 1 life 1");
        c.due("no cure where none is missed", x.cure(1), Checks.NONE);
    }

    private static void notices() {
        StrikeBallots x = union(0);
        for (int i = 0; i < 40; i++) {
            x.member(i, i < 30 ? 0 : 1, 10, 10);
        }
        x.open(1);
        x.days(3);
        int all = (1 << 20) - 1;
        c.due("notice of all in the branch", x.notice(0, 3, all, (1 << 10) - 1), 0);
        c.due("l", x.noticed(0, 3), 0);
        c.due("c", x.noticed(0, 4), 30);
        c.due("notice of all", x.notice(0, 400, all, all), 1);
        c.due("l of all", x.noticed(1, 3), 10);
        c.due("c of all", x.noticed(1, 4), 40);
        x.leave(0);
        x.move(1, 1);
        c.due("notice of some", x.notice(0, 7, 7, 1 << 19), 2);
        int[] want = {0, 3, 7, 3 + 27, 4};
        for (int what = 0; what < 5; what++) {
            c.due("noticed(2, " + what + ")", x.noticed(2, what), want[what]);
        }
        x.move(2, 1);
        x.days(1);
        c.due("l stays as it was", x.noticed(2, 3), 30);
        c.due("noticed(2, 5)", x.noticed(2, 5), Checks.BAD);
        c.due("noticed(2, -1)", x.noticed(2, -1), Checks.BAD);
        c.due("noticed(3, 0)", x.noticed(3, 0), Checks.BAD);
        c.due("noticed(-1, 0)", x.noticed(-1, 0), Checks.BAD);
    }

    private static void wrongNotices() {
        StrikeBallots x = union(3);
        x.open(1);
        x.days(2);
        c.due("first ahead of today", x.notice(0, 1, 0, 0), Checks.BAD);
        c.due("first 401", x.notice(0, 401, 0, 0), Checks.BAD);
        c.due("ballot 1", x.notice(1, 2, 0, 0), Checks.BAD);
        c.due("ballot -1", x.notice(-1, 2, 0, 0), Checks.BAD);
        c.due("member 3", x.notice(0, 2, 8, 0), Checks.BAD);
        c.due("low -1", x.notice(0, 2, -1, 0), Checks.BAD);
        c.due("high -1", x.notice(0, 2, 0, -1), Checks.BAD);
        c.due("high 1", x.notice(0, 2, 0, 1), Checks.BAD);
        c.due("high LEAST_INT", x.notice(0, 2, 0, Checks.LEAST_INT), Checks.BAD);
        for (int i = 0; i < 12; i++) {
            c.due("notice " + i, x.notice(0, 2, 7, 0), i);
        }
        c.due("a notice too many", x.notice(0, 2, 7, 0), Checks.FULL);
        c.due("a bad notice too many", x.notice(0, 2, 8, 0), Checks.BAD);
        StrikeBallots y = union(40);
        y.open(1);
        c.due("low above 20 bits", y.notice(0, 0, 1 << 20, 0), Checks.BAD);
        c.due("high above 20 bits", y.notice(0, 0, 0, 1 << 20), Checks.BAD);
        c.due("the last member", y.notice(0, 0, 0, 1 << 19), 0);
    }

    private static void holding() {
        StrikeBallots x = union(5);
        Checks.lawOf(x, "stands 1 notice a>6 & l=0 & c=5 life 20");
        x.open(1);
        c.due("notice ahead of closing", x.notice(0, 10, 31, 0), 0);
        c.due("holds, not closed", x.holds(0), 0);
        x.days(4);
        x.close(0);
        c.due("holds, closed since", x.holds(0), 1);
        x.notice(0, 10, 31, 0);
        c.due("too short", x.holds(1), 0);
        x.notice(0, 11, 31, 0);
        c.due("just long enough", x.holds(2), 1);
        x.notice(0, 24, 31, 0);
        c.due("on its last day", x.holds(3), 1);
        x.notice(0, 25, 31, 0);
        c.due("behind its last day", x.holds(4), 0);
        x.notice(0, 11, 15, 0);
        c.due("a list with one missing", x.holds(5), 0);
        x.leave(4);
        c.due("a list that became wrong later", x.holds(2), 1);
        x.notice(0, 11, 31, 0);
        c.due("a list that is wrong", x.holds(6), 0);
        c.due("holds(7)", x.holds(7), Checks.BAD);
        c.due("holds(-1)", x.holds(-1), Checks.BAD);
        x.open(1);
        x.notice(1, 8, 15, 0);
        x.days(6);
        x.close(1);
        Checks.lawOf(x, "stands 1 notice 1 life 20");
        c.due("a first day ahead of closing", x.holds(7), 0);
        Checks.lawOf(x, "stands 0 notice 1 life 20");
        c.due("a ballot that does not stand", x.holds(2), 0);
    }

    private static void holdingAsKnown() {
        StrikeBallots x = union(3);
        Checks.lawOf(x, "stands 1 notice y=2&d=1 life 99");
        x.open(1);
        x.sendAll(0);
        x.back(0, 0, 1);
        x.days(1);
        x.notice(0, 9, 7, 0);
        x.back(0, 1, 1);
        x.days(1);
        x.back(0, 2, 1);
        x.close(0);
        c.due("as known on the day when it was given", x.holds(0), 1);
        Checks.lawOf(x, "stands y=3 notice y=2 life 99*(y=3)");
        c.due("the rest as known at closing", x.holds(0), 1);
    }
}
