import java.util.ArrayList;
import java.util.List;

/**
 * All that can be asked of an object without changing it. It takes up to 300 calls, and an object is
 * good for 512, so an object is asked once, at the end of a test.
 */
final class Seen {
    private Seen() {
    }

    static List<Integer> of(ScriptLedger x) {
        List<Integer> answers = ofLedger(x);
        for (int what = 0; what < 4; what++) {
            answers.add(x.result(what));
        }
        return answers;
    }

    /** All but the latest run. */
    static List<Integer> ofLedger(ScriptLedger x) {
        List<Integer> answers = new ArrayList<>();
        int outputs = x.outputs();
        answers.add(outputs);
        answers.add(x.pot());
        answers.add(x.height());
        for (int asset = 0; asset < 3; asset++) {
            answers.add(x.total(asset));
        }
        for (int output = 0; output < outputs; output++) {
            for (int what = 0; what < 6; what++) {
                answers.add(x.about(output, what));
            }
        }
        return answers;
    }
}
