/** Promises 43 to 45: sheets, their places, copies. */
public final class SheetsTest {
    private static final Checks c = new Checks();

    public static void main(String[] args) {
        sheets();
        marks();
        copies();
        copiesWithin();
        wrongCopies();
        c.end();
    }

    private static void sheets() {
        StrikeBallots x = new StrikeBallots();
        c.due("sheet(2, 1)", x.sheet(2, 1), Checks.BAD);
        c.due("sheet(-1, 1)", x.sheet(-1, 1), Checks.BAD);
        c.due("sheet(2, -1)", x.sheet(2, -1), Checks.BAD);
        c.due("sheet(0, 41)", x.sheet(0, 41), Checks.BAD);
        c.due("sheet(0, -1)", x.sheet(0, -1), Checks.SIZE);
        c.due("sheet(0, LEAST_INT)", x.sheet(0, Checks.LEAST_INT), Checks.SIZE);
        c.due("it is missing still", x.mark(0, 0, 0), Checks.NOTHING);
        c.due("sheet(0, 0)", x.sheet(0, 0), 0);
        c.due("no place in it", x.mark(0, 0, 0), Checks.INDEX);
        c.due("sheet(0, 40)", x.sheet(0, 40), 40);
        x.mark(0, 39, 7);
        x.mark(0, 0, 8);
        c.due("sheet(0, 40) again", x.sheet(0, 40), 40);
        c.due("all are 0", x.mark(0, 39, 1) + x.mark(0, 0, 1), 0);
        c.due("the other one is missing", x.mark(1, 0, 0), Checks.NOTHING);
    }

    private static void marks() {
        StrikeBallots x = new StrikeBallots();
        x.sheet(1, 3);
        c.due("mark(2, 0, 0)", x.mark(2, 0, 0), Checks.BAD);
        c.due("mark(-1, 0, 0)", x.mark(-1, 0, 0), Checks.BAD);
        c.due("mark(0, 9, 0)", x.mark(0, 9, 0), Checks.NOTHING);
        c.due("mark(1, 3, 0)", x.mark(1, 3, 0), Checks.INDEX);
        c.due("mark(1, -1, 0)", x.mark(1, -1, 0), Checks.INDEX);
        c.due("mark(1, 2, 32768)", x.mark(1, 2, 32768), 0);
        c.due("as a short", x.mark(1, 2, 65537), -32768);
        c.due("as a short, too", x.mark(1, 2, -5), 1);
        c.due("below 0", x.mark(1, 2, 0), -5);
    }

    private static void fill(StrikeBallots x, int s, int... values) {
        x.sheet(s, values.length);
        for (int i = 0; i < values.length; i++) {
            x.mark(s, i, values[i]);
        }
    }

    private static void dueSheet(StrikeBallots x, String of, int s, int... want) {
        for (int i = 0; i < want.length; i++) {
            int was = x.mark(s, i, 0);
            x.mark(s, i, was);
            c.due(of + ", place " + i, was, want[i]);
        }
    }

    private static void copies() {
        StrikeBallots x = new StrikeBallots();
        fill(x, 0, 1, 2, 3, 4);
        fill(x, 1, 5, 6, 7);
        c.due("copy(0, 1, 1, 0, 2)", x.copy(0, 1, 1, 0, 2), 2);
        dueSheet(x, "to", 1, 2, 3, 7);
        dueSheet(x, "from", 0, 1, 2, 3, 4);
        c.due("copy(1, 0, 0, 1, 3)", x.copy(1, 0, 0, 1, 3), 3);
        dueSheet(x, "back", 0, 1, 2, 3, 7);
        c.due("copy of none at the ends", x.copy(0, 4, 1, 3, 0), 0);
    }

    private static void copiesWithin() {
        StrikeBallots x = new StrikeBallots();
        fill(x, 0, 1, 2, 3, 4, 5);
        c.due("copy up", x.copy(0, 0, 0, 1, 4), 4);
        dueSheet(x, "as they were", 0, 1, 1, 2, 3, 4);
        c.due("copy down", x.copy(0, 2, 0, 0, 3), 3);
        dueSheet(x, "as they were, too", 0, 2, 3, 4, 3, 4);
    }

    private static void wrongCopies() {
        StrikeBallots x = new StrikeBallots();
        c.due("both missing", x.copy(0, 0, 1, 0, 0), Checks.NOTHING);
        c.due("copy(2, ..)", x.copy(2, 0, 1, 0, 0), Checks.BAD);
        c.due("copy to 2", x.copy(0, 0, 2, 0, 0), Checks.BAD);
        c.due("copy(-1, ..)", x.copy(-1, 0, 1, 0, 0), Checks.BAD);
        x.sheet(0, 4);
        c.due("to a missing one", x.copy(0, 9, 1, 0, 0), Checks.NOTHING);
        c.due("from a missing one", x.copy(1, 0, 0, 0, 1), Checks.NOTHING);
        fill(x, 1, 9, 9);
        c.due("too many to take", x.copy(0, 3, 1, 0, 2), Checks.INDEX);
        c.due("too many to put", x.copy(0, 0, 1, 0, 3), Checks.INDEX);
        c.due("from -1", x.copy(0, -1, 1, 0, 1), Checks.INDEX);
        c.due("to -1", x.copy(0, 0, 1, -1, 1), Checks.INDEX);
        c.due("none from behind the end", x.copy(0, 5, 1, 0, 0), Checks.INDEX);
        c.due("none to behind the end", x.copy(0, 0, 1, 3, 0), Checks.INDEX);
        c.due("below none", x.copy(0, 2, 1, 1, -1), Checks.INDEX);
        c.due("the most at the most", x.copy(0, Checks.MOST_INT, 1, 0, Checks.MOST_INT), Checks.INDEX);
        c.due("the most from 1", x.copy(0, 1, 1, 1, Checks.MOST_INT), Checks.INDEX);
        dueSheet(x, "nothing was changed", 1, 9, 9);
    }
}
