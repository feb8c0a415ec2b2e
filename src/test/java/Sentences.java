import java.io.IOException;
import java.lang.reflect.InvocationTargetException;
import java.lang.reflect.Method;
import java.lang.reflect.Modifier;
import java.nio.file.Files;
import java.nio.file.Path;
import java.util.ArrayList;
import java.util.Arrays;
import java.util.BitSet;
import java.util.Comparator;
import java.util.LinkedHashMap;
import java.util.List;
import java.util.Map;
import java.util.function.Predicate;
import java.util.function.ToLongFunction;
import java.util.regex.Matcher;
import java.util.regex.Pattern;

/**
 * Runs tests that each stand for a sentence of the document. A test begins by quoting its sentence; one that
 * quotes none, quotes what the document does not say, or asks nothing is a fault, and so is a word of the terms
 * or of a promise that no test quotes.
 */
final class Sentences {
    private static final String USE = "Use";
    private static final String TERMS = "Terms";
    private static final String CONSTANTS = "Constants";

    private final Due due = new Due("BoundaryTest");
    private final Map<String, String> texts = new LinkedHashMap<>();
    private final Map<String, BitSet> quoted = new LinkedHashMap<>();
    private int tests;
    private int quotes;
    private int asked;
    private String about = "";

    Sentences(Path document) throws IOException {
        String all = Files.readString(document);
        section(USE, all, "\n(An object is used [^\n]*)\n");
        section(TERMS, all, "## Terms\n(.*?)\nThe constants:");
        section(CONSTANTS, all, "\nThe constants: ([^\n]*)\n");
        for (int promise = 1; promise <= 44; promise++) {
            section(Integer.toString(promise), all, "## Promise " + promise + ": [^\n]*\n+`[^`]*`: ([^\n]*)\n");
        }
    }

    private void section(String name, String all, String pattern) {
        Matcher found = Pattern.compile(pattern, Pattern.DOTALL).matcher(all);
        String text = found.find() ? found.group(1) : "";
        due.is("the document has section " + name, !text.isEmpty(), true);
        texts.put(name, plain(text.replaceAll("```(text)?", " ").replaceAll("==== \\d\\.", " ")));
        quoted.put(name, new BitSet());
    }

    private static String plain(String text) {
        return text.replaceAll("\\s+", " ").trim();
    }

    /** The sentence of a promise that the test stands for. */
    void of(int promise, String quote) {
        quote(Integer.toString(promise), quote);
    }

    /** The sentence of the terms that the test stands for. */
    void term(String quote) {
        quote(TERMS, quote);
    }

    /** What the document says of an object's calls. */
    void use(String quote) {
        quote(USE, quote);
    }

    void constant(String quote) {
        quote(CONSTANTS, quote);
    }

    private void quote(String section, String quote) {
        String text = texts.get(section);
        String wanted = plain(quote);
        int place = text.indexOf(wanted);
        due.is("'" + wanted + "' stands in " + section, place >= 0, true);
        while (place >= 0) {
            quoted.get(section).set(place, place + wanted.length());
            place = text.indexOf(wanted, place + 1);
        }
        about = section + " '" + wanted + "'";
        quotes++;
    }

    void is(String what, long got, long want) {
        asked++;
        due.is(about + ": " + what, got, want);
    }

    void is(String what, boolean got, boolean want) {
        is(what, got ? 1 : 0, want ? 1 : 0);
    }

    void same(String what, String got, String want) {
        is(what + (got.equals(want) ? "" : ", got\n" + got + "for\n" + want), got.equals(want), true);
    }

    void row(String what, LabelStacks x, int which, int... want) {
        asked++;
        due.row(about + ": " + what, x, which, want);
    }

    /** A call that is refused with this answer and leaves all as it was. */
    void refuses(String what, LabelStacks x, long want, ToLongFunction<LabelStacks> call) {
        String before = Seen.all(x);
        is(what, call.applyAsLong(x), want);
        same(what + ", all stays", Seen.all(x), before);
    }

    /** A call that is refused with NONE. */
    void none(String what, LabelStacks x, ToLongFunction<LabelStacks> call) {
        refuses(what, x, LabelStacks.NONE, call);
    }

    /** A call that is refused with false. */
    void not(String what, LabelStacks x, Predicate<LabelStacks> call) {
        refuses(what, x, 0, y -> call.test(y) ? 1 : 0);
    }

    void runAll(Class<?>... classes) throws ReflectiveOperationException {
        for (Class<?> c : classes) {
            Method[] methods = c.getDeclaredMethods();
            Arrays.sort(methods, Comparator.comparing(Method::getName));
            for (Method m : methods) {
                if (Arrays.equals(m.getParameterTypes(), new Class<?>[] {Sentences.class}) && !Modifier.isPrivate(m.getModifiers())) {
                    runOne(m);
                }
            }
        }
    }

    private void runOne(Method test) throws ReflectiveOperationException {
        tests++;
        quotes = 0;
        asked = 0;
        about = test.getName();
        try {
            test.invoke(null, this);
        } catch (InvocationTargetException thrown) {
            due.is(test.getName() + " threw " + thrown.getCause(), 1, 0);
        }
        due.is(test.getName() + " quotes a sentence", quotes > 0, true);
        due.is(test.getName() + " asks something", asked > 0, true);
    }

    void close() {
        for (Map.Entry<String, String> e : texts.entrySet()) {
            for (String left : leftOf(e.getValue(), quoted.get(e.getKey()))) {
                due.is("no test quotes '" + left + "' of " + e.getKey(), 1, 0);
            }
        }
        System.out.println("BoundaryTest: " + tests + " tests");
        due.close();
    }

    private static List<String> leftOf(String text, BitSet covered) {
        List<String> all = new ArrayList<>();
        for (int i = covered.nextClearBit(0); i < text.length(); i = covered.nextClearBit(i)) {
            int end = covered.nextSetBit(i);
            String piece = text.substring(i, end < 0 ? text.length() : end);
            if (piece.matches(".*[A-Za-z0-9].*")) {
                all.add(piece.trim());
            }
            i += piece.length();
        }
        return all;
    }
}
