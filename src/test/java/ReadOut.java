import java.util.ArrayList;
import java.util.List;

/** All that calls can tell of an object's state; the object is used up by it. */
final class ReadOut {
    private static final String NAMES = "epmxbrynvd";

    private final StrikeBallots x;
    private final List<Integer> told = new ArrayList<>();

    ReadOut(StrikeBallots x) {
        this.x = x;
    }

    List<Integer> all() {
        for (int what = 0; what <= 8; what++) {
            told.add(x.count(what));
        }
        for (int b = 0; b < x.count(0); b++) {
            branch(b);
        }
        for (int m = 0; m < x.count(1); m++) {
            member(m);
        }
        for (int i = 0; i < x.count(3); i++) {
            told.add(x.joined(i));
        }
        for (int i = 0; i < x.count(4); i++) {
            ballot(i);
        }
        for (int i = 0; i < x.count(5); i++) {
            notice(i);
        }
        // What can't be read without being changed comes last.
        told.add(x.check(0, 12));
        rulesAndHarm();
        sheets();
        told.add(x.law());
        moves();
        return told;
    }

    private void branch(int b) {
        for (int kind = 0; kind < 4; kind++) {
            told.add(x.isOf(b, kind));
        }
        for (int what = 0; what < 5; what++) {
            told.add(x.rolls(b, what));
        }
    }

    private void member(int m) {
        for (int what = 0; what < 5; what++) {
            told.add(x.told(m, what));
        }
        int today = x.count(6);
        for (int day = 0; day <= today; day += day < 3 || day > today - 3 ? 1 : 2) {
            told.add(x.of(m, day));
        }
    }

    private void ballot(int i) {
        for (int what = 0; what < 3; what++) {
            told.add(x.about(i, what));
        }
        for (int day : new int[] {x.about(i, 1), x.count(6)}) {
            for (char letter : NAMES.toCharArray()) {
                told.add(x.name(i, letter, day));
            }
            told.add(x.says(i, 0, day));
            told.add(x.says(i, 1, day));
            told.add(x.stands(i, day));
            told.add(x.lives(i, day));
        }
        for (int parcel = 0; parcel < x.parcels(i); parcel++) {
            for (int what = 0; what < 4; what++) {
                told.add(x.parcel(i, parcel, what));
            }
        }
        told.add(x.cure(i));
        told.add(x.plan(i, 12));
        told.add(x.planned(i, 12));
        told.add(x.cost(i));
    }

    private void notice(int i) {
        for (int what = 0; what < 5; what++) {
            told.add(x.noticed(i, what));
        }
        told.add(x.holds(i));
    }

    private void rulesAndHarm() {
        for (int which = 0; which < 5; which++) {
            told.add(x.rule(which, 1));
        }
        for (int i = 0; i < 12; i++) {
            told.add(x.harm(i, 0));
        }
    }

    private void sheets() {
        for (int s = 0; s < 2; s++) {
            for (int place = 0; place <= 40; place++) {
                told.add(x.mark(s, place, 0));
            }
        }
    }

    private void moves() {
        for (int m = 0; m < x.count(1); m++) {
            for (int i = 0; i < 7; i++) {
                told.add(x.move(m, i % 2));
                told.add(x.move(m, 1 - i % 2));
            }
        }
    }
}
