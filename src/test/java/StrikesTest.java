/** Promises 34 to 42: harm, rules, plans, their cost and rows, docked pay. */
public final class StrikesTest {
    private static final Checks c = new Checks();

    public static void main(String[] args) {
        harms();
        laying();
        rules();
        costs();
        funds();
        ties();
        runs();
        vitals();
        gains();
        checking();
        waiting();
        wrongPlans();
        docking();
        c.end();
    }

    /** One ballot of one branch; a day of strike costs 20 at first. */
    private static StrikeBallots union(int... harms) {
        StrikeBallots x = new StrikeBallots();
        x.branch(0);
        x.member(1, 0, 20, 10);
        x.open(1);
        for (int i = 0; i < harms.length; i++) {
            x.harm(i, harms[i]);
        }
        return x;
    }

    private static void duePlan(StrikeBallots x, String of, int n, int harm, int days) {
        c.due("plan " + of, x.plan(0, n), harm);
        c.due("planned " + of, x.planned(0, n), days);
    }

    private static void harms() {
        StrikeBallots x = union();
        c.due("harm(0, 999)", x.harm(0, 999), 0);
        c.due("harm(0, 0)", x.harm(0, 0), 999);
        c.due("harm(11, 5)", x.harm(11, 5), 0);
        c.due("harm(12, 5)", x.harm(12, 5), Checks.BAD);
        c.due("harm(-1, 5)", x.harm(-1, 5), Checks.BAD);
        c.due("harm(11, 1000)", x.harm(11, 1000), Checks.BAD);
        c.due("harm(11, -1)", x.harm(11, -1), Checks.BAD);
        c.due("harm(11, 6)", x.harm(11, 6), 5);
    }

    private static void laying() {
        StrikeBallots x = union(1, 2, 3, 4, 5);
        c.due("lay(0), missing", x.lay(0), Checks.NOTHING);
        c.due("lay(2)", x.lay(2), Checks.BAD);
        c.due("lay(-1)", x.lay(-1), Checks.BAD);
        x.sheet(0, 4);
        x.mark(0, 0, 999);
        x.mark(0, 1, 1000);
        x.mark(0, 2, -1);
        x.mark(0, 3, 7);
        c.due("lay(0)", x.lay(0), 4);
        int[] want = {999, 0, 0, 7, 5, 0};
        for (int i = 0; i < want.length; i++) {
            c.due("harm of day " + i, x.harm(i, 0), want[i]);
        }
        x.sheet(1, 0);
        c.due("lay of no places", x.lay(1), 0);
        x.sheet(1, 13);
        x.mark(1, 11, 8);
        x.mark(1, 12, 9);
        c.due("lay of 13 places", x.lay(1), 12);
        c.due("harm of the last day", x.harm(11, 0), 8);
    }

    private static void rules() {
        StrikeBallots x = new StrikeBallots();
        int[] least = {0, 0, 0, 1, 1};
        int[] most = {1000000, 100, 9999, 12, 20};
        int[] first = {0, 50, 0, 3, 3};
        for (int which = 0; which < 5; which++) {
            String of = "rule " + which;
            c.due(of + " at first", x.rule(which, most[which]), first[which]);
            c.due(of + " above its most", x.rule(which, most[which] + 1), Checks.BAD);
            c.due(of + " below its least", x.rule(which, least[which] - 1), Checks.BAD);
            c.due(of + " from its most", x.rule(which, least[which]), most[which]);
            c.due(of + " from its least", x.rule(which, first[which]), least[which]);
        }
        c.due("rule(5, 1)", x.rule(5, 1), Checks.BAD);
        c.due("rule(-1, 1)", x.rule(-1, 1), Checks.BAD);
    }

    private static void costs() {
        StrikeBallots x = new StrikeBallots();
        x.branch(0);
        x.branch(0);
        x.branch(0);
        x.member(1, 0, 7, 7);
        x.member(2, 0, 7, 7);
        x.member(3, 1, 48, 999);
        x.member(4, 2, 48, 999);
        x.open(3);
        c.due("cost: each cut by itself", x.cost(0), 4 + 4 + 4795);
        x.rule(1, 33);
        c.due("cost with part 33", x.cost(0), 2 + 2 + 3164);
        x.rule(1, 0);
        c.due("cost with part 0", x.cost(0), 0);
        x.rule(1, 100);
        c.due("cost with part 100", x.cost(0), 9 + 9 + 9590);
        x.leave(0);
        x.move(2, 2);
        c.due("cost of who is there today", x.cost(0), 9);
        c.due("cost(1)", x.cost(1), Checks.BAD);
        c.due("cost(-1)", x.cost(-1), Checks.BAD);
    }

    private static void funds() {
        StrikeBallots x = union(5, 9, 5);
        duePlan(x, "without a fund", 3, 0, 0);
        x.rule(0, 19);
        duePlan(x, "with 19", 3, 0, 0);
        x.rule(0, 20);
        duePlan(x, "with 20", 3, 9, 2);
        duePlan(x, "with 20, one day", 1, 5, 1);
        x.rule(0, 59);
        duePlan(x, "with 59", 3, 14, 3);
        x.rule(0, 60);
        duePlan(x, "with 60", 3, 19, 7);
        duePlan(x, "with 60, 12 days", 12, 19, 7);
    }

    private static void ties() {
        StrikeBallots x = union(3, 3, 6, 6);
        x.rule(0, 1000);
        x.rule(3, 1);
        duePlan(x, "the most harm", 4, 9, 5);
        StrikeBallots y = union(3, 3, 6);
        y.rule(0, 20);
        duePlan(y, "one day", 3, 6, 4);
        y.harm(1, 6);
        duePlan(y, "the lesser number", 3, 6, 2);
        StrikeBallots z = union(4, 0, 4, 8, 0, 0);
        z.rule(0, 40);
        z.rule(3, 1);
        z.harm(2, 0);
        duePlan(z, "days without harm are left out", 6, 12, 9);
        StrikeBallots w = union(5, 10, 5);
        w.rule(0, 1000);
        w.rule(3, 1);
        duePlan(w, "fewer days of the same harm", 3, 10, 2);
    }

    private static void runs() {
        int[] ones = {1, 1, 1, 1, 1, 1, 1, 1, 1, 1, 1, 1};
        StrikeBallots x = union(ones);
        x.rule(0, 1000000);
        duePlan(x, "run 3", 12, 9, 0b011101110111);
        x.rule(3, 1);
        duePlan(x, "run 1", 12, 6, 0b010101010101);
        x.rule(3, 11);
        duePlan(x, "run 11", 12, 11, 0b011111111111);
        x.rule(3, 12);
        duePlan(x, "run 12", 12, 12, 0b111111111111);
        x.rule(3, 2);
        duePlan(x, "run 2 of 2 days", 2, 2, 3);
    }

    private static void vitals() {
        for (int kind = 0; kind < 4; kind++) {
            StrikeBallots x = new StrikeBallots();
            x.branch(0);
            x.branch(kind);
            x.member(1, 0, 20, 10);
            x.open(3);
            x.rule(0, 1000);
            x.harm(0, 4);
            x.harm(1, 5);
            duePlan(x, "a branch without members, kind " + kind, 2, 9, 3);
            x.member(2, 1, 20, 10);
            boolean isVital = kind == 1 || kind == 2;
            duePlan(x, "a branch with a member, kind " + kind, 2, isVital ? 5 : 9, isVital ? 2 : 3);
            x.move(1, 0);
            duePlan(x, "a branch that was left, kind " + kind, 2, 9, 3);
        }
        StrikeBallots y = union(4, 5);
        y.rule(0, 1000);
        y.branch(1);
        y.member(5, 1, 1, 1);
        duePlan(y, "beside a vital branch of no ballot", 2, 9, 3);
    }

    private static void gains() {
        StrikeBallots x = union(1, 1, 5);
        x.rule(2, 10);
        duePlan(x, "gain for the third day", 3, 5, 4);
        duePlan(x, "no gain yet for the second", 2, 0, 0);
        x.rule(0, 10);
        duePlan(x, "gain comes behind the day", 1, 0, 0);
        duePlan(x, "gain and fund", 2, 1, 2);
        x.rule(0, 1000000);
        x.rule(2, 9999);
        Checks.tellAll(x, 1, 1009979, 1, 1019958, 1, 1029937);
        c.due("rows above the most", x.check(0, 3), 0);
        c.due("the fund itself stays", x.rule(0, 0), 1000000);
    }

    private static void checking() {
        StrikeBallots x = union(5, 0, 7);
        x.rule(0, 45);
        x.rule(2, 3);
        int[] rows = {1, 28, 0, 31, 1, 14};
        Checks.tellAll(x, rows);
        c.due("right rows", x.check(0, 3), 0);
        c.due("none wait then", x.count(7), 0);
        for (int i = 0; i < rows.length; i++) {
            for (int j = 0; j < rows.length; j++) {
                x.tell(j == i ? rows[j] + 1 : rows[j]);
            }
            c.due("wrong at " + i, x.check(0, 3), 1 + i);
            for (int j = 0; j < i; j++) {
                x.tell(rows[j]);
            }
            c.due("missing at " + i, x.check(0, 3), 1 + i);
        }
        Checks.tellAll(x, rows);
        x.tell(0);
        c.due("one too many", x.check(0, 3), 7);
        Checks.tellAll(x, rows);
        c.due("rows for more days than that", x.check(0, 2), 7 - 2);
        Checks.tellAll(x, rows);
        c.due("check(1, 3)", x.check(1, 3), Checks.BAD);
        c.due("none wait behind that, too", x.count(7), 0);
        Checks.tellAll(x, rows);
        c.due("check(0, 13)", x.check(0, 13), Checks.BAD);
        c.due("check(0, 0)", x.check(0, 0), Checks.BAD);
        c.due("no numbers", x.check(0, 3), 1);
    }

    private static void waiting() {
        StrikeBallots x = union();
        for (int i = 1; i <= 30; i++) {
            c.due("tell " + i, x.tell(i % 2 == 0 ? 0 : Checks.LEAST_INT), i);
        }
        c.due("tell 31", x.tell(0), Checks.FULL);
        c.due("count(7)", x.count(7), 30);
        c.due("check of 30", x.check(0, 12), 1);
        for (int i = 0; i < 30; i++) {
            x.tell(0);
        }
        c.due("check of 30, 24 of them right", x.check(0, 12), 25);
    }

    private static void wrongPlans() {
        StrikeBallots x = union(1);
        int[][] wrong = {{1, 3}, {-1, 3}, {0, 0}, {0, -1}, {0, 13}, {Checks.MOST_INT, Checks.MOST_INT}};
        for (int[] args : wrong) {
            c.due("plan of ballot " + args[0] + " for " + args[1], x.plan(args[0], args[1]), Checks.BAD);
            c.due("planned of ballot " + args[0] + " for " + args[1], x.planned(args[0], args[1]), Checks.BAD);
        }
    }

    private static void docking() {
        StrikeBallots x = new StrikeBallots();
        x.branch(0);
        x.member(1, 0, 7, 7);
        x.member(2, 0, 48, 999);
        c.due("docked(0, 0)", x.docked(0, 0), 9);
        c.due("docked(0, 8)", x.docked(0, 8), 9);
        c.due("docked(0, 9)", x.docked(0, 9), 8);
        c.due("docked(0, 77)", x.docked(0, 77), 1);
        c.due("docked(0, 78)", x.docked(0, 78), 0);
        c.due("docked(0, 600)", x.docked(0, 600), 0);
        c.due("docked(1, 1)", x.docked(1, 1), 9590 - 16);
        c.due("docked(1, 575)", x.docked(1, 575), 9590 - 9573);
        c.due("docked(1, 577)", x.docked(1, 577), 0);
        c.due("docked(0, 601)", x.docked(0, 601), Checks.BAD);
        c.due("docked(0, -1)", x.docked(0, -1), Checks.BAD);
        c.due("docked(2, 0)", x.docked(2, 0), Checks.BAD);
        c.due("docked(-1, 0)", x.docked(-1, 0), Checks.BAD);
        x.leave(0);
        c.due("docked of one who left", x.docked(0, 0), 9);
    }
}
