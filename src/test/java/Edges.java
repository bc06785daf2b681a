import java.io.IOException;
import java.nio.file.Files;
import java.nio.file.Path;
import java.util.BitSet;
import java.util.regex.Matcher;
import java.util.regex.Pattern;

/**
 * Checks that stand below the words of the document to which they hold the class. At the end every word
 * of the document's terms and promises must have been quoted, and each quotation must have had a check:
 * so no sentence is left without one.
 */
final class Edges {
    private static final Path DOCUMENT = Path.of("../shared/DOC.md");
    private static final String FIRST = "## Terms ";
    private static final String BEHIND = "## Not promised ";
    /** Headings and the methods' faces: FormTest looks at the latter. */
    private static final Pattern NO_SENTENCE = Pattern.compile("## Terms|## Promise \\d+: (A new object|\\w+)|==== \\d\\.|```(text)?|`[^`]+`:?");

    private final Check check = new Check();
    private final String document;
    private final BitSet quoted = new BitSet();
    private int section = 0;
    private String words = "the document";
    private int checks = 1;

    Edges() throws IOException {
        document = Files.readString(DOCUMENT).replaceAll("\\s+", " ");
        Matcher m = NO_SENTENCE.matcher(document);
        while (m.find()) {
            quoted.set(m.start(), m.end());
        }
    }

    /** From where on the next quotations are looked for. */
    void in(String heading) {
        section = Math.max(0, document.indexOf(heading));
        check.isTrue("the document has: " + heading, document.contains(heading));
    }

    void promise(int number) {
        in("## Promise " + number + ": ");
    }

    /** The words that the next checks are about. */
    void says(String next) {
        check.isTrue("there is a check of: " + words, checks > 0);
        int at = document.indexOf(next, section);
        check.isTrue("the document says: " + next, at >= 0);
        if (at >= 0) {
            quoted.set(at, at + next.length());
        }
        words = next;
        checks = 0;
    }

    private String label(String what) {
        checks++;
        return "«" + words + "» " + what;
    }

    void same(String what, long got, long due) {
        check.same(label(what), got, due);
    }

    void isTrue(String what, boolean got) {
        check.isTrue(label(what), got);
    }

    void isFalse(String what, boolean got) {
        check.isFalse(label(what), got);
    }

    /** Makes an object anew for each call that is looked at, as one is used for 512 calls at most. */
    interface Maker {
        MarginWays make();
    }

    interface On {
        long run(MarginWays x);
    }

    /** A call that throws changes nothing. */
    void noSuch(String what, Maker maker, On call) {
        MarginWays x = maker.make();
        String before = state(x);
        check.noSuch(label(what), () -> call.run(x));
        check.isTrue(label(what + " changes nothing"), before.equals(state(x)));
    }

    void illegal(String what, Maker maker, On call) {
        MarginWays x = maker.make();
        String before = state(x);
        check.illegal(label(what), () -> call.run(x));
        check.isTrue(label(what + " changes nothing"), before.equals(state(x)));
    }

    void illegal(String what, String text, On call) {
        illegal(what, () -> Check.told(text), call);
    }

    /** An act or a sighting that is refused: only its STATUS changes, by one. */
    void refused(String what, Maker maker, int status, long due, On call) {
        MarginWays x = maker.make();
        String before = state(x);
        int many = x.count(11 + status);
        check.same(label(what), call.run(x), due);
        check.same(label(what + " counts"), x.count(11 + status), many + 1);
        String again = state(x).replace(statusOf(status, many + 1), statusOf(status, many));
        check.same(label(what + " changes nothing else"), again.equals(before) ? 1 : 0, 1);
    }

    private static String statusOf(int status, int many) {
        return "count" + (11 + status) + "=" + many + " ";
    }

    /** A call that only asks changes nothing, not even a STATUS. */
    void asks(String what, Maker maker, On call) {
        MarginWays x = maker.make();
        String before = state(x);
        Check.thrownBy(() -> call.run(x));
        check.isTrue(label(what + " changes nothing"), before.equals(state(x)));
    }

    /** All that can be read without running days. */
    static String state(MarginWays x) {
        StringBuilder all = new StringBuilder();
        for (int what = 0; what < 14; what++) {
            all.append("count").append(what).append('=').append(x.count(what)).append(' ');
        }
        all.append("fault=").append(x.fault()).append(' ');
        for (int deed = 0; deed < x.count(0); deed++) {
            for (int what = 0; what < 5; what++) {
                all.append(x.deed(deed, what)).append(' ');
            }
            for (int place = 0; place < x.deed(deed, 0); place++) {
                all.append(x.ink(10 * deed + place)).append(' ');
            }
        }
        for (int person = 0; person < x.count(1); person++) {
            for (int what = 0; what < 6; what++) {
                all.append(x.person(person, what)).append(' ');
            }
        }
        return all.toString();
    }

    // ---- texts

    private void text(String text, int fault, int place) {
        MarginWays x = new MarginWays();
        check.same(label("cellar of: " + text), Check.cellar(x, text), fault);
        check.same(label("fault() of: " + text), x.fault(), place);
        check.same(label("refused of: " + text), x.count(11), fault == 0 ? 0 : 1);
    }

    void fine(String text) {
        text(text, 0, MarginWays.NONE);
    }

    /** A FAULT at the place of the sign |, which is left out of the text. */
    void fault(int fault, String marked) {
        int place = marked.indexOf('|');
        text(marked.substring(0, place) + marked.substring(place + 1), fault, place);
    }

    // ---- rules

    /** What an EXPR gives: one makes a step, if it is this number. */
    void gives(String expr, int due) {
        MarginWays x = Check.told("deed 0 0;person 0 0 1 to 0 1;goes (" + expr + ")=" + written(due) + ";");
        check.same(label(expr + " gives " + due), x.gone(0, 1), 1);
        MarginWays y = Check.told("deed 0 0;person 0 0 1 to 0 1;goes (" + expr + ")=" + written(due + 1) + ";");
        check.same(label(expr + " gives " + due + " alone"), y.gone(0, 1), 0);
    }

    /** Any number as an EXPR of numbers of at most 4 digits. */
    private static String written(int number) {
        if (number == Integer.MIN_VALUE) {
            return "(" + written(number + 1) + "-1)";
        }
        if (number < 0) {
            return "(0-" + written(-number) + ")";
        }
        return number < 10000 ? "" + number : "(" + written(number / 10000) + "*(9999+1)+" + number % 10000 + ")";
    }

    // ---- the end

    void end(String name) {
        check.isTrue("there is a check of: " + words, checks > 0);
        int from = document.indexOf(FIRST);
        int to = document.indexOf(BEHIND);
        check.isTrue("the document has its terms and its end", from >= 0 && to > from);
        int at = quoted.nextClearBit(from);
        while (at < to) {
            int end = quoted.nextSetBit(at);
            String rest = document.substring(at, end < 0 || end > to ? to : end);
            check.isFalse("no test quotes: " + rest, rest.matches(".*[A-Za-z0-9].*"));
            at = quoted.nextClearBit(at + rest.length());
        }
        check.end(name);
    }
}
