import java.util.List;

/** Counts the answers that are not as due, prints each, and ends the test with exit code 1 if there was one. */
final class Check {
    private int wrong = 0;
    private int asked = 0;
    private String about = "";

    /** What the next answers are about, in words of the test's own. */
    void about(String words) {
        about = words;
    }

    /** The promise, and its sentence in the document's words, that the next answers hold. */
    void sentence(int promise, String words) {
        about = "promise " + promise + ", \"" + words + "\"";
    }

    /** The sentence of the document's section "Terms" that the next answers hold. */
    void term(String words) {
        about = "terms, \"" + words + "\"";
    }

    void due(String call, long got, long want) {
        asked++;
        if (got != want) {
            wrong++;
            System.out.println(about + ": " + call + " answered " + got + ", due is " + want);
        }
    }

    void due(String call, boolean got, boolean want) {
        due(call, got ? 1 : 0, want ? 1 : 0);
    }

    void due(String call, String got, String want) {
        asked++;
        if (!got.equals(want)) {
            wrong++;
            System.out.println(about + ": " + call + " answered " + got + ", due is " + want);
        }
    }

    /** Two lists of calls with their answers; the first difference is printed. */
    void same(String when, List<String> got, List<String> want) {
        for (int i = 0; i < Math.min(got.size(), want.size()); i++) {
            if (!got.get(i).equals(want.get(i))) {
                wrong++;
                System.out.println(about + ": " + when + " " + got.get(i) + ", due is " + want.get(i));
                return;
            }
        }
        due(when + " the questions", got.size(), want.size());
    }

    int wrong() {
        return wrong;
    }

    void end() {
        if (asked == 0) {
            wrong++;
            System.out.println("nothing was asked");
        }
        System.out.println(wrong == 0 ? "all answers are as due" : wrong + " answers are not as due");
        if (wrong != 0) {
            System.exit(1);
        }
    }
}
