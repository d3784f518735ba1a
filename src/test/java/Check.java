import java.util.HashSet;
import java.util.Set;

/** Counts the answers that are not as due, for one test class, and ends the run with their count. */
final class Check {
    private final Set<String> sentences = new HashSet<>();
    private String sentence = "";
    private int askedOfSentence;
    private int asked;
    private int wrong;

    /** Names the sentence of the document that the answers from here on are held against. */
    void about(String where, String words) {
        endSentence();
        sentence = where + ", '" + words + "': ";
        sentences.add(sentence);
        askedOfSentence = 0;
    }

    void same(String what, long got, long due) {
        count();
        if (got != due) {
            wrong++;
            System.out.println(sentence + what + " answered " + got + ", due is " + due);
        }
    }

    void alike(String what, String got, String due) {
        count();
        if (!got.equals(due)) {
            wrong++;
            System.out.println(sentence + what + " shows\n" + got + "due is\n" + due);
        }
    }

    void yes(String what, boolean got) {
        same(what, got ? 1 : 0, 1);
    }

    void no(String what, boolean got) {
        same(what, got ? 1 : 0, 0);
    }

    boolean allRight() {
        return wrong == 0;
    }

    void end(String name) {
        endSentence();
        String named = sentences.isEmpty() ? "" : sentences.size() + " sentences, ";
        System.out.println(name + ": " + named + asked + " answers, " + wrong + " wrong");
        if (wrong != 0 || asked == 0) {
            System.exit(1);
        }
    }

    private void count() {
        asked++;
        askedOfSentence++;
    }

    /** A sentence that is named and not tested would look as if it held. */
    private void endSentence() {
        if (!sentences.isEmpty() && askedOfSentence == 0) {
            wrong++;
            System.out.println(sentence + "nothing was asked");
        }
    }
}
