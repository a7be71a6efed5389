import java.io.IOException;
import java.nio.file.Files;
import java.nio.file.Path;
import java.util.ArrayList;
import java.util.List;
import java.util.function.BooleanSupplier;
import java.util.function.IntSupplier;
import java.util.function.Predicate;
import java.util.function.Supplier;
import java.util.function.ToIntFunction;
import java.util.regex.Matcher;
import java.util.regex.Pattern;

/** Ties tests to sentences of the document: each is quoted, and each that names an edge must be quoted by one. */
final class Edge {
    private static final Path DOCUMENT = Path.of("../shared/DOC.md");
    /** Words by which a sentence names an edge. */
    private static final Pattern NAMES_AN_EDGE = Pattern.compile("at most|at least|at first|NONE|HIDDEN|False|\\.\\. "
            + "|no such|out of bounds|refused|\\(cut|cuts|empty|the lowest|of several|-2|NoSuchElement|no KITCHEN|without"
            + "|going round|held within|is gone|left out|taken off|no less|is above|not above|no farther|once|the latest"
            + "|none|None|No KITCHEN|as told|1 to|first|sixth|seventh|fifth|third|17th|by 0|OPEN or CRACKED");
    private static String document = "";
    private static final List<int[]> QUOTED = new ArrayList<>();
    private static String sentence = "";
    private static int looked = 1;

    private Edge() {
    }

    static void open() throws IOException {
        if (!Files.exists(DOCUMENT)) {
            System.out.println("no " + DOCUMENT + ": its words are not looked at");
            return;
        }
        String whole = Files.readString(DOCUMENT);
        int face = whole.indexOf("## The public face");
        int terms = whole.indexOf("## Terms");
        int rest = whole.indexOf("## Not promised");
        boolean found = face >= 0 && terms >= face && rest >= terms;
        Check.due("the document's parts are found", found, true);
        document = plain(found ? whole.substring(0, face) + whole.substring(terms, rest) : whole);
    }

    private static String plain(String text) {
        return text.replace("```text", " ").replace("```", " ").replaceAll("\\s+", " ");
    }

    /** What is looked at from here on is this sentence's own test. */
    static void says(String quote) {
        close();
        if (!document.isEmpty()) {
            int at = document.indexOf(quote);
            Check.due("the document says once: " + quote, at >= 0 && document.indexOf(quote, at + 1) < 0, true);
            QUOTED.add(new int[] {at, at + quote.length()});
        }
        sentence = quote.length() > 90 ? quote.substring(0, 90) + ".." : quote;
        looked = 0;
    }

    private static void close() {
        Check.due("something is looked at: " + sentence, looked > 0, true);
    }

    static void due(String what, long got, long want) {
        looked++;
        Check.due("<" + sentence + "> " + what, got, want);
    }

    static void due(String what, boolean got, boolean want) {
        due(what, got ? 1 : 0, want ? 1 : 0);
    }

    static void same(String what, String got, String want) {
        looked++;
        Check.same("<" + sentence + "> " + what, got, want);
    }

    /** The first answers of a row of calls, one behind the other. */
    static void row(String what, ToIntFunction<Integer> call, int... want) {
        for (int i = 0; i < want.length; i++) {
            due(what + " " + i, call.applyAsInt(i), want[i]);
        }
    }

    /** A call that only looks, and what it answers: nothing changes. */
    static void looks(TightLid lid, String call, IntSupplier answer, int want) {
        String seen = Check.all(lid);
        due(call, answer.getAsInt(), want);
        same(call + " changes nothing", Check.all(lid), seen);
    }

    static void looks(TightLid lid, String call, BooleanSupplier answer, boolean want) {
        looks(lid, call, () -> answer.getAsBoolean() ? 1 : 0, want ? 1 : 0);
    }

    /** A refused call: the object is then as another one made so without it, down to all that can be undone. */
    static void refused(Supplier<TightLid> made, String call, ToIntFunction<TightLid> answer, int want) {
        TightLid lid = made.get();
        due(call, answer.applyAsInt(lid), want);
        same(call + " changes nothing", unwound(lid), unwound(made.get()));
    }

    static void refuses(Supplier<TightLid> made, String call, Predicate<TightLid> answer) {
        refused(made, call, lid -> answer.test(lid) ? 1 : 0, 0);
    }

    private static String unwound(TightLid lid) {
        StringBuilder told = new StringBuilder();
        for (int plan = 0; plan < lid.count(4); plan++) {
            for (int i = 0; lid.step(plan, i) != Check.NONE; i++) {
                told.append(lid.step(plan, i)).append(' ');
            }
        }
        for (int hand = 0; hand < lid.count(1); hand++) {
            for (int tool = -1; tool < lid.count(2); tool++) {
                told.append(lid.grip(hand, tool, 0)).append(' ');
            }
        }
        told.append(Check.all(lid));
        int left = lid.undo();
        while (left != Check.NONE) {
            told.append('\n').append(left).append(' ').append(Check.all(lid));
            left = lid.undo();
        }
        told.append('\n').append(lid.back()).append(' ').append(Check.all(lid));
        return told.toString();
    }

    /** Each word of the document that names an edge stands in a sentence that a test quotes. */
    static void allQuoted() {
        close();
        Matcher edge = NAMES_AN_EDGE.matcher(document);
        while (edge.find()) {
            int at = edge.start();
            boolean quoted = false;
            for (int[] range : QUOTED) {
                quoted |= range[0] <= at && at < range[1];
            }
            String near = document.substring(Math.max(0, at - 60), Math.min(document.length(), at + 40));
            Check.due("a test quotes: .." + near + "..", quoted, true);
        }
    }
}
