/** Promises 4 to 8: members come, move, leave, and are of a branch on a day. */
public final class MembersTest {
    private static final Checks c = new Checks();

    public static void main(String[] args) {
        coming();
        moving();
        leaving();
        looking();
        c.end();
    }

    private static void coming() {
        StrikeBallots x = new StrikeBallots();
        c.due("member without a branch", x.member(1, 0, 1, 1), Checks.BAD);
        x.branch(0);
        c.due("mark -1", x.member(-1, 0, 1, 1), Checks.BAD);
        c.due("mark 10000", x.member(10000, 0, 1, 1), Checks.BAD);
        c.due("branch -1", x.member(1, -1, 1, 1), Checks.BAD);
        c.due("branch 1", x.member(1, 1, 1, 1), Checks.BAD);
        c.due("hours 0", x.member(1, 0, 0, 1), Checks.BAD);
        c.due("hours 49", x.member(1, 0, 49, 1), Checks.BAD);
        c.due("wage 0", x.member(1, 0, 1, 0), Checks.BAD);
        c.due("wage 1000", x.member(1, 0, 1, 1000), Checks.BAD);
        c.due("the least of all", x.member(0, 0, 1, 1), 0);
        c.due("the most of all", x.member(9999, 0, 48, 999), 1);
        for (int i = 2; i < 40; i++) {
            c.due("member " + i, x.member(i, 0, 1, 1), i);
        }
        c.due("a member too many", x.member(1, 0, 1, 1), Checks.FULL);
        c.due("a bad member too many", x.member(1, 0, 0, 1), Checks.BAD);
        x.leave(0);
        c.due("a member too many, though one left", x.member(1, 0, 1, 1), Checks.FULL);
    }

    private static void moving() {
        StrikeBallots x = new StrikeBallots();
        x.branch(0);
        x.branch(0);
        x.branch(0);
        x.member(1, 0, 1, 1);
        c.due("move(1, 0)", x.move(1, 0), Checks.BAD);
        c.due("move(-1, 0)", x.move(-1, 0), Checks.BAD);
        c.due("move(0, 3)", x.move(0, 3), Checks.BAD);
        c.due("move(0, -1)", x.move(0, -1), Checks.BAD);
        c.due("move to the own branch", x.move(0, 0), Checks.NO);
        c.due("move 1", x.move(0, 1), 0);
        x.days(2);
        c.due("move 2", x.move(0, 2), 1);
        c.due("move 3, on the same day", x.move(0, 0), 2);
        c.due("of on the day ahead", x.of(0, 1), 1);
        c.due("of the latest of the day", x.of(0, 2), 0);
        c.due("move 4", x.move(0, 1), 0);
        c.due("move 5", x.move(0, 2), 1);
        c.due("move 6", x.move(0, 1), 2);
        c.due("move 7", x.move(0, 2), Checks.FULL);
        c.due("move 7 to the own branch", x.move(0, 1), Checks.NO);
        x.leave(0);
        c.due("move 7 of one who left", x.move(0, 2), Checks.NO);
    }

    private static void leaving() {
        StrikeBallots x = new StrikeBallots();
        x.branch(0);
        x.branch(0);
        x.member(1, 0, 1, 1);
        c.due("leave(1)", x.leave(1), Checks.BAD);
        c.due("leave(-1)", x.leave(-1), Checks.BAD);
        x.move(0, 1);
        x.days(3);
        c.due("told(0, 4) ahead of leaving", x.told(0, 4), Checks.NONE);
        c.due("leave(0)", x.leave(0), 1);
        c.due("leave(0) again", x.leave(0), Checks.NO);
        c.due("of on the day ahead", x.of(0, 2), 1);
        c.due("of on the day of leaving", x.of(0, 3), Checks.NONE);
        x.days(1);
        c.due("of behind it", x.of(0, 4), Checks.NONE);
        c.due("told(0, 4)", x.told(0, 4), 3);
        x.member(2, 0, 1, 1);
        x.leave(1);
        c.due("of one who came and left on a day", x.of(1, 4), Checks.NONE);
    }

    private static void looking() {
        StrikeBallots x = new StrikeBallots();
        x.branch(0);
        x.days(5);
        x.member(17, 0, 38, 21);
        c.due("of on the day of coming", x.of(0, 5), 0);
        c.due("of ahead of coming", x.of(0, 4), Checks.NONE);
        c.due("of on day 0", x.of(0, 0), Checks.NONE);
        c.due("of tomorrow", x.of(0, 6), Checks.BAD);
        c.due("of on day -1", x.of(0, -1), Checks.BAD);
        c.due("of member 1", x.of(1, 0), Checks.BAD);
        c.due("told(0, 0)", x.told(0, 0), 17);
        c.due("told(0, 1)", x.told(0, 1), 38);
        c.due("told(0, 2)", x.told(0, 2), 21);
        c.due("told(0, 3)", x.told(0, 3), 5);
        c.due("told(0, 5)", x.told(0, 5), Checks.BAD);
        c.due("told(0, -1)", x.told(0, -1), Checks.BAD);
        c.due("told(1, 0)", x.told(1, 0), Checks.BAD);
        c.due("told(-1, 0)", x.told(-1, 0), Checks.BAD);
    }
}
