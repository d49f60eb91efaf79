/** Promises 9 to 13: the roll, and how its lines are joined with members. */
public final class RollTest {
    private static final Checks c = new Checks();

    public static void main(String[] args) {
        lines();
        fromSheets();
        sameAheadOfNearly();
        figures();
        onlyToday();
        questions();
        c.end();
    }

    private static void lines() {
        StrikeBallots x = new StrikeBallots();
        c.due("line without a branch", x.line(1, 0), Checks.BAD);
        x.branch(0);
        c.due("line(-1, 0)", x.line(-1, 0), Checks.BAD);
        c.due("line(10000, 0)", x.line(10000, 0), Checks.BAD);
        c.due("line(1, 1)", x.line(1, 1), Checks.BAD);
        c.due("line(1, -1)", x.line(1, -1), Checks.BAD);
        for (int i = 0; i < 40; i++) {
            c.due("line " + i, x.line(i == 0 ? 9999 : 0, 0), i);
        }
        c.due("a line too many", x.line(1, 0), Checks.FULL);
        c.due("a bad line too many", x.line(1, 1), Checks.BAD);
        c.due("wipe()", x.wipe(), 40);
        c.due("count(3)", x.count(3), 0);
        c.due("wipe() again", x.wipe(), 0);
        c.due("joined(0) behind it", x.joined(0), Checks.BAD);
        c.due("a line behind it", x.line(1, 0), 0);
    }

    private static void fromSheets() {
        StrikeBallots x = new StrikeBallots();
        x.branch(0);
        c.due("roll(0, 0) of a missing sheet", x.roll(0, 0), Checks.NOTHING);
        c.due("roll(1, 0) of a missing sheet", x.roll(1, 0), Checks.BAD);
        c.due("roll(0, 2)", x.roll(0, 2), Checks.BAD);
        c.due("roll(0, -1)", x.roll(0, -1), Checks.BAD);
        x.sheet(1, 0);
        c.due("roll of no places", x.roll(0, 1), 0);
        x.sheet(0, 40);
        x.mark(0, 3, -1);
        x.mark(0, 4, 10000);
        x.mark(0, 5, 9999);
        c.due("roll(0, 0)", x.roll(0, 0), 38);
        c.due("roll(0, 0) with room for two", x.roll(0, 0), 2);
        c.due("roll(0, 0) without room", x.roll(0, 0), 0);
        c.due("count(3)", x.count(3), 40);
    }

    private static void sameAheadOfNearly() {
        StrikeBallots x = new StrikeBallots();
        x.branch(0);
        x.member(1111, 0, 1, 1);
        x.member(1112, 0, 1, 1);
        x.member(1111, 0, 1, 1);
        x.line(1113, 0);
        x.line(1112, 0);
        x.line(1111, 0);
        c.due("the same mark, though a line ahead is near", x.joined(1), 1);
        c.due("the least of two of the same mark", x.joined(2), 0);
        c.due("the near line gets who is left", x.joined(0), 2);
        x.line(1111, 0);
        c.due("the second of the same mark", x.joined(3), 2);
        c.due("now nobody is left for the near line", x.joined(0), Checks.NONE);
        c.due("joined(4)", x.joined(4), Checks.BAD);
        c.due("joined(-1)", x.joined(-1), Checks.BAD);
    }

    private static void figures() {
        int[][] pairs = {{0, 1000, 1}, {9, 10, 0}, {1234, 1243, 0}, {1999, 999, 1}, {5, 50, 0}, {4321, 4021, 1},
            {999, 1000, 0}, {7, 7, 1}};
        for (int[] pair : pairs) {
            StrikeBallots x = new StrikeBallots();
            x.branch(0);
            x.member(pair[0], 0, 1, 1);
            x.line(pair[1], 0);
            c.due(pair[0] + " joined with " + pair[1], x.joined(0), pair[2] == 1 ? 0 : Checks.NONE);
        }
    }

    private static void onlyToday() {
        StrikeBallots x = new StrikeBallots();
        x.branch(0);
        x.branch(0);
        x.member(5, 0, 1, 1);
        x.line(5, 0);
        x.line(5, 1);
        c.due("the branch's own line", x.joined(0), 0);
        c.due("the other's line", x.joined(1), Checks.NONE);
        x.move(0, 1);
        c.due("the line of the branch ahead", x.joined(0), Checks.NONE);
        c.due("the line of the new branch", x.joined(1), 0);
        x.leave(0);
        c.due("the line of one who left", x.joined(1), Checks.NONE);
    }

    private static void questions() {
        StrikeBallots x = new StrikeBallots();
        x.branch(0);
        x.branch(0);
        x.member(10, 0, 1, 1);
        x.member(20, 0, 1, 1);
        x.member(35, 0, 1, 1);
        x.member(4444, 0, 1, 1);
        x.member(10, 1, 1, 1);
        x.line(10, 0);
        x.line(21, 0);
        x.line(20, 0);
        x.line(39, 0);
        x.line(11, 1);
        int[] want = {4, 4, 2, 1, 1};
        int[] wantOther = {1, 1, 0, 1, 0};
        for (int what = 0; what < 5; what++) {
            c.due("rolls(0, " + what + ")", x.rolls(0, what), want[what]);
            c.due("rolls(1, " + what + ")", x.rolls(1, what), wantOther[what]);
        }
        c.due("rolls(0, 5)", x.rolls(0, 5), Checks.BAD);
        c.due("rolls(0, -1)", x.rolls(0, -1), Checks.BAD);
        c.due("rolls(2, 0)", x.rolls(2, 0), Checks.BAD);
        c.due("rolls(-1, 0)", x.rolls(-1, 0), Checks.BAD);
    }
}
