import java.io.IOException;
import java.lang.reflect.InvocationTargetException;
import java.lang.reflect.Method;
import java.nio.file.Files;
import java.nio.file.Path;
import java.util.Arrays;
import java.util.BitSet;
import java.util.Map;
import java.util.NoSuchElementException;
import java.util.TreeMap;
import java.util.regex.Matcher;
import java.util.regex.Pattern;

/** What the tests share: answers that are due, refusals, texts told and asked, and the document's own words. */
class Checks {
    static final int NONE = LightClassifier.NONE;
    static final Class<?> NO_SUCH = NoSuchElementException.class;
    static final Class<?> ARGUMENT = IllegalArgumentException.class;
    static final Class<?> STATE = IllegalStateException.class;

    static int wrong = 0;
    static int checked = 0;

    // The sentence that the test at hand is on; told with each answer that is not as due.
    private static String sentence = "";
    private static Map<String, String> document = new TreeMap<>();
    private static final Map<String, BitSet> quoted = new TreeMap<>();

    interface Call {
        long run();
    }

    interface Deed {
        long on(LightClassifier x);
    }

    // ---- answers that are due

    static void due(String what, long got, long want) {
        checked++;
        if (got != want) {
            tellWrong(what + " answered " + got + ", due is " + want);
        }
    }

    static void due(String what, boolean got, boolean want) {
        due(what, got ? 1 : 0, want ? 1 : 0);
    }

    static void due(String what, String got, String want) {
        checked++;
        if (!got.equals(want)) {
            tellWrong(what + ": " + got + ", due is " + want);
        }
    }

    static void tellWrong(String what) {
        wrong++;
        System.out.println(sentence.isEmpty() ? what : sentence + ": " + what);
    }

    static void refused(String what, Class<?> want, Call call) {
        checked++;
        String got;
        try {
            got = "answered " + call.run();
        } catch (RuntimeException e) {
            if (e.getClass() == want) {
                return;
            }
            got = "threw " + e.getClass().getSimpleName();
        }
        tellWrong(what + " " + got + ", due is " + want.getSimpleName());
    }

    static void noSuch(String what, Call call) {
        refused(what, NO_SUCH, call);
    }

    static void wrongArgument(String what, Call call) {
        refused(what, ARGUMENT, call);
    }

    static void wrongState(String what, Call call) {
        refused(what, STATE, call);
    }

    static void end() {
        System.out.println(checked + " answers checked, not as due: " + wrong);
        if (wrong != 0) {
            System.exit(1);
        }
    }

    // ---- texts

    /** Feeds a text, the last twenty bytes filled up with bytes 0, and says how long the text is. */
    static int feed(LightClassifier x, String s) {
        for (int p = 0; p < s.length(); p += 20) {
            int[] v = new int[5];
            for (int i = 0; i < 20 && p + i < s.length(); i++) {
                v[i / 4] |= s.charAt(p + i) << 24 - 8 * (i % 4);
            }
            x.feed(v[0], v[1], v[2], v[3], v[4]);
        }
        return s.length();
    }

    static int tell(LightClassifier x, String s) {
        return x.text(feed(x, s));
    }

    static LightClassifier with(String s) {
        LightClassifier x = new LightClassifier();
        int told = tell(x, s);
        if (told < 0) {
            due("a text of a test, its fault at " + x.fault() + " of " + s, told, 0);
        }
        return x;
    }

    static int ask(LightClassifier x, String s) {
        return x.ask(feed(x, s));
    }

    static int of(LightClassifier x, int what, String s) {
        return x.of(what, feed(x, s));
    }

    static long model(LightClassifier x, String s) {
        return x.model(feed(x, s));
    }

    /** The NAME of one letter. */
    static int name(LightClassifier x, char letter) {
        for (int k = 0; k < x.told(2); k++) {
            if (x.letter(0, k, 0) == letter) {
                return k;
            }
        }
        return NONE;
    }

    static int part(LightClassifier x, char letter) {
        return x.named(name(x, letter));
    }

    static boolean isBelow(LightClassifier x, char lower, char upper) {
        return x.below(part(x, lower), part(x, upper));
    }

    static int whenIs(LightClassifier x, char lower, char upper) {
        return x.when(part(x, lower), part(x, upper));
    }

    /** A FAULT of a text: its kind and place, and that all else stays. */
    static void fault(String s, int kind, int place) {
        LightClassifier x = with("k<l;");
        x.turn(0);
        due("text of " + s, tell(x, s), kind - 10);
        due("fault() of " + s, x.fault(), place);
        due("axioms behind " + s, x.told(0), 1);
        due("what is ON behind " + s, x.told(1), 0);
        due("what can be taken back behind " + s, x.told(10), 1);
        due("tape behind " + s, x.told(9), 0);
    }

    static void good(String s, int axioms) {
        LightClassifier x = new LightClassifier();
        due("text of " + s, tell(x, s), axioms);
        due("fault() of " + s, x.fault(), NONE);
    }

    static void askFault(LightClassifier x, String s, int kind, int place) {
        due("ask of " + s, ask(x, s), kind - 10);
        due("fault() of ask of " + s, x.fault(), place);
        due("tape behind ask of " + s, x.told(9), 0);
    }

    /** What an object answers, but for its status(), as far as it can be asked without many calls. */
    static String state(LightClassifier x) {
        StringBuilder s = new StringBuilder();
        s.append("fault ").append(x.fault()).append(" print ").append(x.print()).append(" void ").append(x.nothing()).append(" told");
        for (int k = 0; k < 12; k++) {
            s.append(' ').append(x.told(k));
        }
        s.append(" on ");
        for (int k = 0; k < x.told(0); k++) {
            s.append(x.axiom(k, 1));
        }
        return s.toString();
    }

    // ---- the document

    /** The first line of a test: where the document says it, and what it says. */
    static void says(String where, String words) {
        sentence = where + " (" + words + ")";
        String section = document.get(where);
        if (document.isEmpty()) {
            return;
        }
        boolean found = false;
        for (int at = section == null ? -1 : section.indexOf(words); at >= 0; at = section.indexOf(words, at + 1)) {
            quoted.computeIfAbsent(where, k -> new BitSet()).set(at, at + words.length());
            found = true;
        }
        if (!found) {
            tellWrong("the document does not say so there");
        }
    }

    static void says(int promise, String words) {
        says("Promise " + promise, words);
    }

    private static void readDocument() throws IOException {
        Path path = Path.of("../shared/DOC.md");
        if (!Files.isReadable(path)) {
            System.out.println("no document at " + path + ": what the tests quote is not looked up");
            return;
        }
        String all = Files.readString(path).replace("```text", " ").replace("```", " ").replaceAll("\\s+", " ");
        Matcher heads = Pattern.compile("==== (\\d+)\\.|## Promise (\\d+): [\\w ]+? (`[^`]*`: )|## [A-Z][a-z ]+").matcher(all);
        String where = "";
        int from = 0;
        while (heads.find()) {
            document.merge(where, all.substring(from, heads.start()), String::concat);
            from = heads.end();
            // The first part of the terms stands partly ahead of the head "Terms".
            boolean terms = heads.group().startsWith("## Terms");
            where = heads.group(1) != null ? "Terms " + heads.group(1) : heads.group(2) != null ? "Promise " + heads.group(2) : terms ? "Terms 1" : "";
        }
        document.merge(where, all.substring(from), String::concat);
        if (document.get("Terms 1") == null || document.get("Promise 33") == null) {
            tellWrong("the document could not be cut into its promises");
        }
    }

    /** What the document says there and no test quotes. */
    private static void tellUnquoted(String where) {
        String section = document.getOrDefault(where, "");
        BitSet said = quoted.getOrDefault(where, new BitSet());
        for (int at = said.nextClearBit(0); at < section.length(); at = said.nextClearBit(at)) {
            int next = said.nextSetBit(at);
            int end = next < 0 ? section.length() : next;
            String left = section.substring(at, end).trim();
            if (left.matches("(?s).*[A-Za-z0-9].*") && !left.equals("and")) {
                sentence = "";
                tellWrong(where + ": no test quotes: " + left);
            }
            at = end;
        }
    }

    /** Runs all tests of a class, and looks whether they quote all of these parts of the document. */
    static void runAll(Class<?> tests, String... sections) throws Exception {
        readDocument();
        Method[] methods = tests.getDeclaredMethods();
        Arrays.sort(methods, (a, b) -> a.getName().compareTo(b.getName()));
        int count = 0;
        for (Method m : methods) {
            if (m.isSynthetic() || m.getParameterCount() != 0 || !m.getName().matches("[tp]\\d+_.*")) {
                continue;
            }
            count++;
            sentence = "";
            int before = checked;
            try {
                m.invoke(null);
            } catch (InvocationTargetException e) {
                tellWrong(m.getName() + " threw " + e.getCause());
            }
            if (sentence.isEmpty() || checked == before) {
                tellWrong(m.getName() + " quotes or checks nothing");
            }
        }
        for (String where : sections) {
            tellUnquoted(where);
        }
        System.out.println(count + " tests");
        end();
    }
}
