/** Promises 1 to 3, 14 and 46: a new object, branches and their kinds, days, counts. */
public final class BranchesTest {
    private static final Checks c = new Checks();

    public static void main(String[] args) {
        newObject();
        branches();
        kinds();
        days();
        counts();
        c.end();
    }

    private static void newObject() {
        StrikeBallots x = new StrikeBallots();
        for (int what = 0; what <= 8; what++) {
            c.due("count(" + what + ") of a new object", x.count(what), 0);
        }
        c.due("isOf(0, 0) of a new object", x.isOf(0, 0), Checks.BAD);
        c.due("rule(0, 0) of a new object", x.rule(0, 0), 0);
        c.due("rule(1, 0) of a new object", x.rule(1, 0), 50);
        c.due("rule(2, 0) of a new object", x.rule(2, 0), 0);
        c.due("rule(3, 1) of a new object", x.rule(3, 1), 3);
        c.due("rule(4, 1) of a new object", x.rule(4, 1), 3);
        c.due("mark(0, 0, 0) of a new object", x.mark(0, 0, 0), Checks.NOTHING);
        c.due("mark(1, 0, 0) of a new object", x.mark(1, 0, 0), Checks.NOTHING);
    }

    private static void branches() {
        StrikeBallots x = new StrikeBallots();
        c.due("branch(-1)", x.branch(-1), Checks.BAD);
        c.due("branch(4)", x.branch(4), Checks.BAD);
        for (int i = 0; i < 6; i++) {
            c.due("branch " + i, x.branch(i % 4), i);
        }
        c.due("a seventh branch", x.branch(0), Checks.FULL);
        c.due("a seventh branch of no kind", x.branch(4), Checks.BAD);
        c.due("count(0)", x.count(0), 6);
    }

    private static void kinds() {
        StrikeBallots x = new StrikeBallots();
        int[][] isOf = {{1, 0, 0, 0}, {1, 1, 0, 0}, {1, 1, 1, 0}, {1, 0, 0, 1}};
        for (int own = 0; own < 4; own++) {
            x.branch(own);
            for (int kind = 0; kind < 4; kind++) {
                c.due("isOf(" + own + ", " + kind + ")", x.isOf(own, kind), isOf[own][kind]);
            }
        }
        c.due("isOf(4, 0)", x.isOf(4, 0), Checks.BAD);
        c.due("isOf(-1, 0)", x.isOf(-1, 0), Checks.BAD);
        c.due("isOf(0, 4)", x.isOf(0, 4), Checks.BAD);
        c.due("isOf(0, -1)", x.isOf(0, -1), Checks.BAD);
    }

    private static void days() {
        StrikeBallots x = new StrikeBallots();
        c.due("days(0)", x.days(0), Checks.BAD);
        c.due("days(61)", x.days(61), Checks.BAD);
        c.due("days(-1)", x.days(-1), Checks.BAD);
        c.due("days(MOST_INT)", x.days(Checks.MOST_INT), Checks.BAD);
        c.due("days(1)", x.days(1), 1);
        for (int i = 1; i <= 6; i++) {
            c.due("days(60)", x.days(60), 1 + 60 * i);
        }
        c.due("days(40) on 361", x.days(40), Checks.BAD);
        c.due("count(6)", x.count(6), 361);
        c.due("days(39) on 361", x.days(39), 400);
        c.due("days(1) on 400", x.days(1), Checks.BAD);
    }

    private static void counts() {
        StrikeBallots x = new StrikeBallots();
        x.branch(0);
        x.branch(0);
        x.member(1, 0, 1, 1);
        x.member(2, 0, 1, 1);
        x.member(3, 0, 1, 1);
        x.leave(1);
        x.line(1, 0);
        x.open(1);
        x.open(1);
        x.notice(0, 0, 0, 0);
        x.days(5);
        x.tell(7);
        x.tell(7);
        x.feed(0, 0, 0);
        int[] want = {2, 3, 2, 1, 2, 1, 5, 2, 12};
        for (int what = 0; what < want.length; what++) {
            c.due("count(" + what + ")", x.count(what), want[what]);
        }
        c.due("count(9)", x.count(9), Checks.BAD);
        c.due("count(-1)", x.count(-1), Checks.BAD);
    }
}
