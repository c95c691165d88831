import java.util.ArrayList;
import java.util.List;

/** Asks an object for all that it holds, at last by calls that change it, so that two can be told apart. */
final class Probe {
    /** No look at an object takes more calls, so that with its story it stays within 512. */
    static final int MOST_CALLS = 350;

    private final HayWriting hay;
    private final List<String> answers = new ArrayList<>();
    private int calls = 0;

    private Probe(HayWriting hay) {
        this.hay = hay;
    }

    static String[] of(HayWriting hay, boolean withFault) {
        Probe probe = new Probe(hay);
        probe.lookAtAll(withFault);
        if (probe.calls > MOST_CALLS) {
            throw new IllegalStateException(probe.calls + " calls");
        }
        return probe.answers.toArray(new String[0]);
    }

    private String ask(String call) {
        calls++;
        String answer = Told.answer(hay, call);
        answers.add(call + " -> " + answer);
        return answer;
    }

    private int number(String call) {
        return Integer.parseInt(ask(call));
    }

    private void lookAtAll(boolean withFault) {
        if (withFault) {
            ask("fault 0");
            ask("fault 1");
        }
        counts();
        fields();
        rest();
        undone();
        ask("days 1");
        fields();
        // Whether a NOTE to come is KNOWN, too.
        ask("note 0 0 0");
        ask("count 11");
        ask("back");
        counts();
        tape();
    }

    private void counts() {
        for (int what = 0; what <= 16; what++) {
            ask("count " + what);
        }
    }

    private void fields() {
        for (int field = 0; !ask("look " + field + " 0").startsWith("throws"); field++) {
            continue;
        }
    }

    private void rest() {
        for (int word = 0; word < 6; word++) {
            for (int hill = 0; hill < 3; hill++) {
                ask("news " + word + " " + hill);
            }
        }
        for (int colour = 0; colour < 4; colour++) {
            ask("pieces " + colour);
        }
        ask("law 0");
        ask("tales");
        ask("tried 1 0 9");
        ask("tried 2 0 9");
    }

    private void undone() {
        while (number("undo") >= 0) {
            ask("count 8");
            ask("count 9");
            ask("count 16");
        }
    }

    /** How long the TAPE is, and as far as a FAULT and the counts tell, what is on it. */
    private void tape() {
        int length = number("feed 0 0 0 0 0");
        number("text " + (length < 0 ? 700 : length - 20));
        ask("fault 0");
        ask("fault 1");
        counts();
    }
}
