import java.util.ArrayList;
import java.util.List;

/** Every answer that an object gives to what is asked of it, but for fault(): no question may change another. */
final class State {
    private final List<String> names = new ArrayList<>();
    private final List<Long> answers = new ArrayList<>();

    State(FingerRows x) {
        noteCell(x);
        noteLayout(x);
        noteOrders(x);
    }

    private void note(String name, long answer) {
        names.add(name);
        answers.add(answer);
    }

    private void noteCell(FingerRows x) {
        for (int what = 0; what < 8; what++) {
            note("count " + what, x.count(what));
        }
        for (int pair = 0; pair < x.count(0); pair++) {
            for (int what = 0; what < 7; what++) {
                note("pair " + pair + " " + what, x.pair(pair, what));
            }
        }
    }

    private void noteLayout(FingerRows x) {
        for (int what = 0; what < 12; what++) {
            note("layout " + what, x.layout(what));
        }
        for (int place = 0; place < x.count(1); place++) {
            for (int what = 0; what < 6; what++) {
                note("at " + place + " " + what, x.at(place, what));
            }
        }
        for (int column = 0; column < x.layout(2); column++) {
            for (int what = 0; what < 4; what++) {
                note("column " + column + " " + what, x.column(column, what));
            }
        }
        for (int net = 0; net < 12; net++) {
            for (int what = 0; what < 9; what++) {
                note("net " + net + " " + what, x.net(net, what));
            }
            note("room " + net, x.room(net));
            note("fits " + net, x.fits(net, net));
        }
        for (int what = 0; what < 4; what++) {
            note("better " + what, x.better(what));
        }
    }

    private void noteOrders(FingerRows x) {
        int fingers = x.count(1);
        note("least", x.least());
        note("many", x.many());
        note("calm", x.calm());
        note("bounds", x.bound(true) * 100L + x.bound(false));
        note("agrees", x.agrees() ? 1 : 0);
        note("dearest", x.dearest());
        note("ties", x.ties());
        note("lonely", x.lonely());
        note("shortest", x.shortest(3, false) * 1000L + x.shortest(3, true));
        for (int n = 0; n <= fingers; n++) {
            note("parted " + n, x.parted(n, false) * 1000L + x.parted(n, true));
            note("ofSet " + n, x.ofSet((1 << n) - 1));
        }
        for (int finger = 0; finger < fingers; finger++) {
            note("starts " + finger, x.starts(finger));
            note("with " + finger, x.with(finger, fingers - 1 - finger));
            note("best " + finger, x.best(x.many() - 1, finger, false) * 4L + x.best(x.many() - 1, finger, true));
            if (finger > 0) {
                note("neighbours " + finger, x.neighbours(0, finger));
            }
        }
    }

    /** Whether an object answers all of it as this one did. */
    boolean isOf(FingerRows x) {
        return answers.equals(new State(x).answers);
    }

    void stays(FingerRows x, String behind) {
        State now = new State(x);
        Check.due("questions behind " + behind, names.size(), now.names.size());
        for (int i = 0; i < names.size() && i < now.names.size(); i++) {
            Check.due(names.get(i) + " behind " + behind, answers.get(i), now.answers.get(i));
        }
    }
}
