/** Promises 15 to 23: ballots, their papers, their names as known on a day, their parcels. */
public final class BallotsTest {
    private static final Checks c = new Checks();

    public static void main(String[] args) {
        opening();
        sending();
        hearing();
        closing();
        namesByDay();
        entitledOnTheDay();
        wrongNames();
        parcels();
        parcelsOfTheDay();
        lastParcelIsSmall();
        lastMember();
        lastDays();
        c.end();
    }

    private static StrikeBallots union(int branches, int membersEach) {
        StrikeBallots x = new StrikeBallots();
        for (int b = 0; b < branches; b++) {
            x.branch(0);
            for (int i = 0; i < membersEach; i++) {
                x.member(b * 100 + i, b, 10, 10);
            }
        }
        return x;
    }

    private static void opening() {
        StrikeBallots x = union(2, 1);
        c.due("open(0)", x.open(0), Checks.BAD);
        c.due("open(4)", x.open(4), Checks.BAD);
        c.due("open(-1)", x.open(-1), Checks.BAD);
        c.due("open(LEAST_INT)", x.open(Checks.LEAST_INT), Checks.BAD);
        x.days(4);
        for (int i = 0; i < 12; i++) {
            c.due("ballot " + i, x.open(1 + i % 3), i);
        }
        c.due("a ballot too many", x.open(1), Checks.FULL);
        c.due("a bad ballot too many", x.open(0), Checks.BAD);
        c.due("about(2, 0)", x.about(2, 0), 3);
        c.due("about(2, 1)", x.about(2, 1), 4);
        c.due("about(2, 2)", x.about(2, 2), Checks.NONE);
        c.due("about(2, 3)", x.about(2, 3), Checks.BAD);
        c.due("about(2, -1)", x.about(2, -1), Checks.BAD);
        c.due("about(12, 0)", x.about(12, 0), Checks.BAD);
        c.due("about(-1, 0)", x.about(-1, 0), Checks.BAD);
    }

    private static void sending() {
        StrikeBallots x = union(2, 2);
        x.open(1);
        c.due("send(1, 0)", x.send(1, 0), Checks.BAD);
        c.due("send(0, 4)", x.send(0, 4), Checks.BAD);
        c.due("send(0, -1)", x.send(0, -1), Checks.BAD);
        c.due("send to another", x.send(0, 3), 1);
        c.due("send again", x.send(0, 3), Checks.NO);
        x.leave(2);
        c.due("send to one who left", x.send(0, 2), 2);
        c.due("send(0, 1)", x.send(0, 1), 3);
        c.due("sendAll(0)", x.sendAll(0), 1);
        c.due("sendAll(0) again", x.sendAll(0), 0);
        c.due("sendAll(1)", x.sendAll(1), Checks.BAD);
        c.due("sendAll(-1)", x.sendAll(-1), Checks.BAD);
        c.due("the papers", x.close(0), 4);
        c.due("sendAll(0), closed", x.sendAll(0), Checks.NO);
        x.open(2);
        c.due("send, for another ballot", x.send(1, 3), 1);
    }

    private static void hearing() {
        StrikeBallots x = union(1, 6);
        x.open(1);
        c.due("back, none sent", x.back(0, 0, 1), Checks.NO);
        x.sendAll(0);
        c.due("back how -1", x.back(0, 0, -1), Checks.BAD);
        c.due("back how 4", x.back(0, 0, 4), Checks.BAD);
        c.due("back(1, 0, 0)", x.back(1, 0, 0), Checks.BAD);
        c.due("back(0, 6, 0)", x.back(0, 6, 0), Checks.BAD);
        c.due("back(0, -1, 0)", x.back(0, -1, 0), Checks.BAD);
        for (int how = 0; how < 4; how++) {
            c.due("back how " + how, x.back(0, how, how), 1);
            c.due("back again, how " + how, x.back(0, how, 1), Checks.NO);
        }
        x.close(0);
        c.due("back, closed", x.back(0, 4, 1), Checks.NO);
        c.due("b", x.name(0, 'b', 0), 1);
        c.due("r", x.name(0, 'r', 0), 3);
        c.due("y", x.name(0, 'y', 0), 1);
        c.due("n", x.name(0, 'n', 0), 1);
    }

    private static void closing() {
        StrikeBallots x = union(1, 1);
        x.open(1);
        c.due("close(1)", x.close(1), Checks.BAD);
        c.due("close(-1)", x.close(-1), Checks.BAD);
        x.days(3);
        c.due("close(0)", x.close(0), 0);
        c.due("close(0) again", x.close(0), Checks.NO);
        c.due("about(0, 2)", x.about(0, 2), 3);
        c.due("send, closed", x.send(0, 0), Checks.NO);
    }

    private static void namesByDay() {
        StrikeBallots x = union(1, 4);
        x.branch(2);
        x.member(900, 1, 10, 10);
        x.days(1);
        x.open(1);
        x.send(0, 0);
        x.days(1);
        x.send(0, 1);
        x.send(0, 4);
        x.back(0, 4, 1);
        x.back(0, 0, 2);
        x.days(2);
        x.send(0, 2);
        x.back(0, 1, 0);
        x.back(0, 2, 1);
        String letters = "epmxbrynvd";
        int[][] want = {
            {4, 1, 3, 0, 0, 0, 0, 0, 0, 0},
            {4, 2, 2, 1, 0, 1, 0, 1, 0, 1},
            {4, 2, 2, 1, 0, 1, 0, 1, 0, 2},
            {4, 3, 1, 1, 1, 2, 1, 1, 0, 3}};
        for (int day = 1; day <= 4; day++) {
            for (int i = 0; i < letters.length(); i++) {
                c.due("name " + letters.charAt(i) + " on " + day, x.name(0, letters.charAt(i), day), want[day - 1][i]);
            }
        }
        x.open(2);
        c.due("v of a ballot with health", x.name(1, 'v', 4), 1);
        x.open(3);
        c.due("v of a ballot with both", x.name(2, 'v', 4), 1);
    }

    private static void entitledOnTheDay() {
        StrikeBallots x = union(2, 2);
        x.open(1);
        c.due("e at first", x.name(0, 'e', 0), 2);
        x.member(7, 0, 1, 1);
        c.due("e with one who came on the day", x.name(0, 'e', 0), 3);
        x.move(2, 0);
        c.due("e with one who moved on the day", x.name(0, 'e', 0), 4);
        x.leave(0);
        c.due("e without one who left on the day", x.name(0, 'e', 0), 3);
        x.days(1);
        x.member(8, 0, 1, 1);
        x.move(1, 1);
        x.leave(2);
        c.due("e is that of the day", x.name(0, 'e', 1), 3);
        c.due("sendAll is to those of the day", x.sendAll(0), 3);
    }

    private static void wrongNames() {
        StrikeBallots x = union(1, 1);
        x.days(2);
        x.open(1);
        x.days(2);
        for (char letter : "alczfg`{E".toCharArray()) {
            c.due("name " + letter, x.name(0, letter, 3), Checks.BAD);
        }
        c.due("name 0", x.name(0, 0, 3), Checks.BAD);
        c.due("name 'e' + 256", x.name(0, 'e' + 256, 3), Checks.BAD);
        c.due("name 'e' + 65536", x.name(0, 'e' + 65536, 3), Checks.BAD);
        c.due("name -1", x.name(0, -1, 3), Checks.BAD);
        c.due("name ahead of the day", x.name(0, 'e', 1), Checks.BAD);
        c.due("name on the day", x.name(0, 'e', 2), 1);
        c.due("name today", x.name(0, 'e', 4), 1);
        c.due("name tomorrow", x.name(0, 'e', 5), Checks.BAD);
        c.due("name of ballot 1", x.name(1, 'e', 4), Checks.BAD);
        c.due("name of ballot -1", x.name(-1, 'e', 4), Checks.BAD);
    }

    private static void dueParcel(StrikeBallots x, int i, int... want) {
        for (int what = 0; what < want.length; what++) {
            c.due("parcel(0, " + i + ", " + what + ")", x.parcel(0, i, what), want[what]);
        }
    }

    private static void parcels() {
        StrikeBallots x = union(6, 3);
        for (int m = 6; m < 9; m++) {
            x.leave(m);
        }
        x.open(47);
        c.due("parcels(1)", x.parcels(1), Checks.BAD);
        c.due("parcels(-1)", x.parcels(-1), Checks.BAD);
        c.due("parcels, none returned", x.parcels(0), 1);
        dueParcel(x, 0, 1 + 2 + 8 + 32, 0, 0, 0);
        x.sendAll(0);
        x.send(0, 12);
        x.back(0, 12, 1);
        int[] hows = {1, 0, 3, 2, 1, 1, -1, -1, -1, 1, 2, 3, -1, -1, -1, 2, 2, 0};
        for (int m = 0; m < hows.length; m++) {
            if (hows[m] >= 0) {
                x.back(0, m, hows[m]);
            }
        }
        c.due("parcels, least 3", x.parcels(0), 2);
        dueParcel(x, 0, 3, 5, 3, 1);
        dueParcel(x, 1, 8 + 32, 5, 1, 3);
        x.rule(4, 2);
        c.due("parcels, least 2", x.parcels(0), 4);
        dueParcel(x, 0, 1, 2, 1, 0);
        dueParcel(x, 1, 2, 3, 2, 1);
        dueParcel(x, 2, 8, 3, 1, 1);
        dueParcel(x, 3, 32, 2, 0, 2);
        x.rule(4, 20);
        c.due("parcels, least 20", x.parcels(0), 1);
        dueParcel(x, 0, 43, 10, 4, 4);
        c.due("parcel(0, 1, 0)", x.parcel(0, 1, 0), Checks.NONE);
        c.due("parcel(0, MOST_INT, 0)", x.parcel(0, Checks.MOST_INT, 0), Checks.NONE);
        c.due("parcel(0, -1, 0)", x.parcel(0, -1, 0), Checks.BAD);
        c.due("parcel(0, 0, 4)", x.parcel(0, 0, 4), Checks.BAD);
        c.due("parcel(0, 9, 4)", x.parcel(0, 9, 4), Checks.BAD);
        c.due("parcel(0, 0, -1)", x.parcel(0, 0, -1), Checks.BAD);
        c.due("parcel(1, 0, 0)", x.parcel(1, 0, 0), Checks.BAD);
        x.open(4);
        c.due("parcels of a ballot without entitled ones", x.parcels(1), 0);
        c.due("its first parcel", x.parcel(1, 0, 0), Checks.NONE);
    }

    private static void parcelsOfTheDay() {
        StrikeBallots x = union(2, 1);
        x.rule(4, 1);
        x.open(3);
        x.sendAll(0);
        x.days(1);
        x.move(0, 1);
        x.back(0, 0, 1);
        x.leave(0);
        c.due("parcels", x.parcels(0), 1);
        dueParcel(x, 0, 3, 1, 1, 0);
        x.back(0, 1, 2);
        c.due("parcels with both", x.parcels(0), 2);
        dueParcel(x, 0, 1, 1, 1, 0);
        dueParcel(x, 1, 2, 1, 0, 1);
    }

    private static void lastParcelIsSmall() {
        StrikeBallots x = union(3, 3);
        x.open(7);
        x.sendAll(0);
        int[] hows = {1, 2, 1, 3, 1, 2, 1, 2};
        for (int m = 0; m < hows.length; m++) {
            x.back(0, m, hows[m]);
        }
        c.due("parcels, the last one small", x.parcels(0), 2);
        dueParcel(x, 0, 1, 3, 2, 1);
        dueParcel(x, 1, 6, 5, 2, 2);
        x.back(0, 8, 3);
        c.due("parcels, the last one big enough", x.parcels(0), 3);
        dueParcel(x, 1, 2, 3, 1, 1);
        dueParcel(x, 2, 4, 3, 1, 1);
    }

    private static void lastMember() {
        StrikeBallots x = union(1, 40);
        x.open(1);
        c.due("send(0, 39)", x.send(0, 39), 1);
        c.due("send(0, 39) again", x.send(0, 39), Checks.NO);
        c.due("back(0, 39, 2)", x.back(0, 39, 2), 1);
        c.due("back(0, 39, 2) again", x.back(0, 39, 2), Checks.NO);
        c.due("sendAll(0) to the others", x.sendAll(0), 39);
        c.due("n of all 40", x.name(0, 'n', 0), 1);
        c.due("e of all 40", x.name(0, 'e', 0), 40);
        c.due("parcel of all 40", x.parcel(0, 0, 3), 1);
    }

    private static void lastDays() {
        for (int last = 399; last <= 400; last++) {
            StrikeBallots x = union(1, 2);
            for (int i = 0; i < 6; i++) {
                x.days(60);
            }
            x.days(last - 360);
            x.open(1);
            x.send(0, 0);
            c.due("send again on " + last, x.send(0, 0), Checks.NO);
            x.back(0, 0, 1);
            c.due("back again on " + last, x.back(0, 0, 1), Checks.NO);
            c.due("m on " + last, x.name(0, 'm', last), 1);
            c.due("close on " + last, x.close(0), 1);
            c.due("close again on " + last, x.close(0), Checks.NO);
            c.due("closing day " + last, x.about(0, 2), last);
            c.due("leave on " + last, x.leave(1), 0);
            c.due("leave again on " + last, x.leave(1), Checks.NO);
            c.due("day of leaving " + last, x.told(1, 4), last);
            c.due("of on " + last, x.of(1, last), Checks.NONE);
        }
    }
}
