import java.util.function.Consumer;
import java.util.function.Supplier;
import java.util.function.ToIntFunction;

/** All that can be asked of an object, as a text; refused calls that change nothing of it. */
final class State {
    private static final int NONE = -1;

    private final LeadNames x;
    private final StringBuilder text = new StringBuilder();

    private State(LeadNames x) {
        this.x = x;
    }

    /** For lands of a few names with letters a .. d. The tape and the seed are looked at by use. */
    static String of(LeadNames x) {
        State state = new State(x);
        state.tellCounts();
        state.tellCoats();
        state.tellTitles();
        state.tellWhatWas();
        state.tellByUse();
        return state.text.toString();
    }

    private void tell(String what, int answer) {
        text.append(what).append(' ').append(answer).append("; ");
    }

    private void tellCounts() {
        for (int what = 0; what <= 8; what++) {
            tell("has", x.has(what));
        }
        for (int what = 0; what <= 3; what++) {
            tell("lead", x.lead(what));
        }
        for (int k = 0; k < 6; k++) {
            tell("octet", x.octet(k));
        }
    }

    private void tellCoats() {
        int persons = x.has(0);
        for (int p = NONE; p < persons; p++) {
            for (int letter = 'a'; letter <= 'd'; letter++) {
                tell("loose", x.loose(p, letter));
            }
        }
        for (int p = 0; p < persons; p++) {
            for (int what = 0; what <= 4; what++) {
                tell("person", x.person(p, what));
            }
        }
    }

    private void tellTitles() {
        int titles = x.has(1);
        int year = x.has(5);
        for (int t = 0; t < titles; t++) {
            tell("ounces", x.title(t, 0));
            tell("signed", x.signed(t, year));
        }
    }

    private void tellWhatWas() {
        for (int k = 0; x.loan(k, 0) != NONE; k++) {
            for (int what = 0; what <= 3; what++) {
                tell("loan", x.loan(k, what));
            }
        }
        for (int k = 0; x.moved(k, 0) != NONE; k++) {
            for (int what = 0; what <= 4; what++) {
                tell("moved", x.moved(k, what));
            }
        }
        for (int k = 0; x.span(k, 0) != NONE; k++) {
            for (int what = 0; what <= 3; what++) {
                tell("span", x.span(k, what));
            }
        }
    }

    private void tellByUse() {
        tell("fed", x.feed(0, 0, 0, 0, 0));
        tell("feast", x.feast());
        int persons = x.has(0);
        for (int p = 0; p < persons; p++) {
            tell("titles", x.person(p, 4));
        }
    }

    /**
     * A call that is refused: its answer is the one for that, it is counted among the refusals of
     * its kind alone, and an object that was made alike and had no such call answers all alike.
     */
    static void refused(Supplier<LeadNames> made, int kind, int due,
            ToIntFunction<LeadNames> call) {
        LeadNames x = made.get();
        LeadNames y = made.get();
        Check.same("a refused call", call.applyAsInt(x), due);
        sameBut(x, y, kind);
    }

    /** Two objects that were made alike answer all alike behind the one call and the other. */
    static void alike(Supplier<LeadNames> made, Consumer<LeadNames> one,
            Consumer<LeadNames> other) {
        LeadNames x = made.get();
        LeadNames y = made.get();
        one.accept(x);
        other.accept(y);
        sameBut(x, y, NONE);
    }

    private static void sameBut(LeadNames x, LeadNames y, int kind) {
        for (int what = 0; what < 6; what++) {
            Check.same("refusals " + what, x.status(what),
                    y.status(what) + (what == kind ? 1 : 0));
        }
        Check.same("all else", of(x), of(y));
    }
}
