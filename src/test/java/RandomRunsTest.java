import java.util.ArrayList;
import java.util.Arrays;
import java.util.List;
import java.util.Random;

/** Long runs of calls by a fixed seed, each answer against that of the plain model; all promises. */
public final class RandomRunsTest {
    private static final int RUNS = 600;
    private static final int CALLS = 512;
    private static final int[] ODD = {-1, 0, 1, 41, 400, 401, 1000000, Integer.MAX_VALUE, Integer.MIN_VALUE, -100};

    private static final Checks c = new Checks();

    private final Random random;
    private final StrikeBallots real = new StrikeBallots();
    private final PlainModel model = new PlainModel();
    private final String of;
    private int calls;

    private RandomRunsTest(int seed) {
        random = new Random(seed);
        of = "run " + seed + ", call ";
    }

    public static void main(String[] args) throws ReflectiveOperationException {
        for (int seed = 0; seed < RUNS; seed++) {
            new RandomRunsTest(seed).run();
        }
        c.end();
    }

    private void run() throws ReflectiveOperationException {
        int daysWeight = random.nextInt(8);
        for (int i = 0; i < 1 + random.nextInt(6); i++) {
            ask("branch", below(4));
        }
        for (int i = random.nextInt(30); i > 0; i--) {
            ask("member", someMark(), below(6), 1 + below(48), 1 + below(999));
        }
        for (int i = random.nextInt(4); i > 0; i--) {
            askLaw();
            ask("open", 1 + about(1 << counted(0)));
        }
        while (calls < CALLS) {
            step(daysWeight);
        }
    }

    private void ask(String call, int... args) throws ReflectiveOperationException {
        if (calls >= CALLS) {
            return;
        }
        calls++;
        int got = Calls.ask(real, call, args);
        c.due(of + calls + ": " + call + Arrays.toString(args), got, model.answer(call, args));
    }

    private int below(int n) {
        return random.nextInt(n);
    }

    /** Mostly 0 .. n - 1, now and then something else. */
    private int about(int n) {
        return below(25) == 0 ? ODD[below(ODD.length)] : below(Math.max(1, n + (below(15) == 0 ? 2 : 0)));
    }

    private int counted(int what) {
        return model.answer("count", new int[] {what});
    }

    private int aBranch() {
        return about(counted(0));
    }

    private int aMember() {
        return about(counted(1));
    }

    private int aBallot() {
        return about(counted(4));
    }

    private int aNotice() {
        return about(counted(5));
    }

    /** A day from that of a ballot to today, mostly. */
    private int aDayOf(int ballot) {
        int day = Math.max(0, model.answer("about", new int[] {ballot, 1}));
        int today = counted(6);
        return below(25) == 0 ? about(401) : below(3) == 0 ? today : day + about(1 + today - day);
    }

    private int someMark() {
        return below(12) == 0 ? about(10000) : (below(2) * 1000 + below(2) * 100 + below(3)) % 10000;
    }

    private void step(int daysWeight) throws ReflectiveOperationException {
        int ballot = aBallot();
        switch (below(50)) {
            case 0: ask("branch", about(4)); break;
            case 1: ask("isOf", aBranch(), about(4)); break;
            case 2: ask("member", someMark(), aBranch(), 1 + about(48), 1 + about(999)); break;
            case 3: ask("move", aMember(), aBranch()); break;
            case 4: if (below(4) == 0) { ask("leave", aMember()); } break;
            case 5: ask("of", aMember(), about(1 + counted(6))); break;
            case 6: ask("told", aMember(), about(5)); break;
            case 7: ask("line", someMark(), aBranch()); break;
            case 8: ask("roll", aBranch(), about(2)); break;
            case 9: if (below(9) == 0) { ask("wipe"); } break;
            case 10: ask("joined", about(counted(3))); break;
            case 11: ask("rolls", aBranch(), about(5)); break;
            case 12: if (below(8) < daysWeight) { ask("days", 1 + about(below(9) == 0 ? 60 : 3)); } break;
            case 13: if (below(3) == 0) { ask("open", about(1 << counted(0))); } break;
            case 14: ask("send", ballot, aMember()); break;
            case 15: if (below(3) == 0) { ask("sendAll", ballot); } break;
            case 16: case 17: case 18: case 19: case 20: ask("back", ballot, aMember(), about(4)); break;
            case 21: if (below(4) == 0) { ask("close", ballot); } break;
            case 22: case 23: ask("name", ballot, "epmxbrynvdepmxbrynvdalcz".charAt(below(24)), aDayOf(ballot)); break;
            case 24: ask("about", ballot, about(3)); break;
            case 25: ask("parcels", ballot); break;
            case 26: case 27: ask("parcel", ballot, about(3), about(4)); break;
            case 28: ask("feed", about(999), random.nextInt(), about(9)); break;
            case 29: ask("trim", about(20)); break;
            case 30: if (below(3) == 0) { askLaw(); } break;
            case 31: case 32: ask("says", ballot, about(2), aDayOf(ballot)); break;
            case 33: ask("stands", ballot, aDayOf(ballot)); break;
            case 34: ask("lives", ballot, aDayOf(ballot) + about(3)); ask("lives", ballot, about(401)); break;
            case 35: case 36: ask("cure", ballot); break;
            case 37: if (below(2) == 0) { askNotice(ballot); } break;
            case 38: ask("noticed", aNotice(), about(5)); break;
            case 39: ask("holds", aNotice()); break;
            case 40: case 41: ask("harm", about(12), about(below(2) == 0 ? 6 : 1000)); break;
            case 42: if (below(5) == 0) { ask("lay", about(2)); } break;
            case 43: ask("rule", about(5), about(new int[] {3, 21, 101, 10000, 1000001}[below(5)])); break;
            case 44: askPlan(ballot); break;
            case 45: if (below(3) == 0) { askCheck(ballot); } break;
            case 46: ask("docked", aMember(), about(601)); break;
            case 47: ask("sheet", about(2), about(41)); break;
            case 48: ask("mark", about(2), about(20), below(3) == 0 ? random.nextInt() : someMark()); break;
            default: ask("copy", about(2), about(9), about(2), about(9), about(9)); ask("count", about(9)); break;
        }
    }

    private void askNotice(int ballot) throws ReflectiveOperationException {
        int members = counted(1);
        int low = random.nextInt() & (1 << Math.min(members, 20)) - 1;
        int high = random.nextInt() & (1 << Math.max(0, Math.min(members - 20, 20))) - 1;
        int today = counted(6);
        int odd = below(12);
        ask("notice", ballot, today + about(12), odd == 0 ? random.nextInt() : low, odd == 1 ? about(9) : high);
    }

    private void askPlan(int ballot) throws ReflectiveOperationException {
        int n = 1 + about(below(4) == 0 ? 12 : 6);
        ask("plan", ballot, n);
        ask("planned", ballot, n);
        ask("cost", ballot);
    }

    private void askCheck(int ballot) throws ReflectiveOperationException {
        int n = 1 + about(5);
        if (below(9) == 0) {
            ask("tell", about(9));
        }
        if (model.isPlannable(ballot, n)) {
            List<Integer> rows = new ArrayList<>(model.rows(ballot, n));
            int change = below(4);
            if (change == 0) {
                rows.set(below(rows.size()), about(100));
            } else if (change == 1) {
                rows.add(about(2));
            } else if (change == 2) {
                rows.remove(rows.size() - 1);
            }
            for (int v : rows) {
                ask("tell", v);
            }
        }
        ask("check", ballot, n);
    }

    private void askLaw() throws ReflectiveOperationException {
        String text = LawTexts.some(random);
        ask("trim", 0);
        for (int i = 0; i < text.length(); i += 12) {
            ask("feed", Checks.four(text, i), Checks.four(text, i + 4), Checks.four(text, i + 8));
        }
        ask("trim", text.length());
        ask("law");
    }
}
