import java.util.NoSuchElementException;

/** What the tests share: counting wrong answers, and feeding written texts. */
final class Check {
    static final int NONE = TightLid.NONE;
    static final int HIDDEN = TightLid.HIDDEN;
    static final int THROWN = Integer.MIN_VALUE;
    private static int made = 0;
    private static int wrong = 0;

    private Check() {
    }

    static void due(String what, long got, long want) {
        made++;
        if (got != want) {
            wrong++;
            if (wrong <= 50) {
                System.out.println(what + " answered " + got + ", due is " + want);
            }
        }
    }

    static void due(String what, boolean got, boolean want) {
        due(what, got ? 1 : 0, want ? 1 : 0);
    }

    /** Adds a text to the tape, as many bytes a call as go; the last answer. */
    static int feed(TightLid lid, String text) {
        int answer = lid.count(5);
        for (int i = 0; i < text.length(); i += 20) {
            answer = lid.feed(word(text, i), word(text, i + 4), word(text, i + 8), word(text, i + 12), word(text, i + 16));
        }
        return answer;
    }

    static int word(String text, int from) {
        int word = 0;
        for (int i = from; i < from + 4; i++) {
            word = word << 8 | (i < text.length() ? text.charAt(i) & 255 : 0);
        }
        return word;
    }

    /** The tape is this text alone. */
    static void tape(TightLid lid, String text) {
        lid.end(0);
        feed(lid, text);
    }

    static int text(TightLid lid, int sort, String text) {
        tape(lid, text);
        return lid.text(sort);
    }

    static int fault(int sort, String text) {
        TightLid lid = new TightLid();
        feed(lid, text);
        return lid.fault(sort);
    }

    static TightLid kitchen(String text) {
        TightLid lid = new TightLid();
        due("text(0) of " + text, text(lid, 0, text) > 0, true);
        return lid;
    }

    static int jar(TightLid lid, int jar, int what) {
        try {
            return lid.jar(jar, what);
        } catch (NoSuchElementException e) {
            return THROWN;
        }
    }

    /** JARS, HANDS, what was LOOSENED, the TABLE and the MINUTE. */
    static String scene(TightLid lid) {
        StringBuilder told = new StringBuilder();
        told.append(lid.count(6)).append(' ').append(lid.count(7));
        for (int jar = 0; jar < lid.count(0); jar++) {
            for (int what = 0; what <= 10; what++) {
                told.append(' ').append(jar(lid, jar, what));
            }
        }
        for (int hand = 0; hand < lid.count(1); hand++) {
            for (int what = 0; what <= 6; what++) {
                told.append(' ').append(lid.hand(hand, what));
            }
        }
        return told.toString();
    }

    /** Everything that calls can tell of an object without changing it. */
    static String all(TightLid lid) {
        StringBuilder told = new StringBuilder(scene(lid)).append(" : ");
        for (int what = 0; what < 12; what++) {
            told.append(lid.count(what)).append(' ');
        }
        for (int i = 0; i < lid.count(11); i++) {
            told.append(lid.log(i, 0)).append('@').append(lid.log(i, 1)).append(' ');
        }
        for (int sort = 0; sort < 3; sort++) {
            told.append(lid.fault(sort)).append(' ');
        }
        return told.append(lid.tight(0)).append(' ').append(lid.tight(1)).append(' ').append(lid.tight(2)).toString();
    }

    static void same(String what, String got, String want) {
        due(what + ": " + got + " against " + want, got.equals(want), true);
    }

    static void end() {
        System.out.println(made + " answers looked at, " + wrong + " wrong");
        if (wrong != 0 || made == 0) {
            System.exit(1);
        }
    }
}
