import java.util.ArrayList;
import java.util.List;

/** What can be told of an object by calls alone; a look may change it, so each takes an object of its own. */
enum Look {
    STATE, FAULTS, IMAGE_0, IMAGE_1, TAPE, SHEET_0, SHEET_1, SHEET_2, SHEET_3;

    List<Integer> at(SqueezedAnswers x) {
        List<Integer> answers = new ArrayList<>();
        switch (this) {
            case STATE: state(x, answers); break;
            case FAULTS: faults(x, answers); break;
            case IMAGE_0: image(x, 0, answers); break;
            case IMAGE_1: image(x, 1, answers); break;
            case TAPE: tape(x, answers); break;
            default: sheet(x, ordinal() - SHEET_0.ordinal(), answers); break;
        }
        return answers;
    }

    private static void state(SqueezedAnswers x, List<Integer> answers) {
        for (int what = 0; what < 8; what++) {
            answers.add(x.rule(what));
        }
        for (int what = 0; what < 6; what++) {
            answers.add(x.count(what));
        }
        int chains = x.rule(0);
        for (int c = 0; c < chains; c++) {
            answers.add(x.column(c));
            answers.add(x.suspects(c));
        }
        cells(x, 0, answers);
        cells(x, 1, answers);
        answers.add(x.watched());
    }

    private static void cells(SqueezedAnswers x, int what, List<Integer> answers) {
        int chains = x.rule(0);
        int length = x.rule(1);
        for (int c = 0; c < chains; c++) {
            for (int t = 0; t < length; t++) {
                answers.add(x.cell(c, t, what));
            }
        }
    }

    private static void faults(SqueezedAnswers x, List<Integer> answers) {
        answers.add(x.fault());
        answers.add(x.torn());
    }

    private static void image(SqueezedAnswers x, int k, List<Integer> answers) {
        answers.add(x.back(k));
        state(x, answers);
    }

    /** The pasts leave a text on the tape that lacks its last byte. */
    private static void tape(SqueezedAnswers x, List<Integer> answers) {
        answers.add(x.feed(';'));
        answers.add(x.text());
        answers.add(x.fault());
        state(x, answers);
    }

    private static void sheet(SqueezedAnswers x, int k, List<Integer> answers) {
        for (int lane = 0; lane < 3; lane++) {
            answers.add(x.read(k, lane, 0, 13));
            answers.add(x.torn());
            cells(x, 0, answers);
            answers.add(x.read(k, lane, 1, 13));
            answers.add(x.read(k, lane, 2, 13));
        }
    }
}
