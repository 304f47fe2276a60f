import java.math.BigInteger;

/** Promises 1 to 33: a test for each thing promised, with the edges that it names; the first line quotes it. */
public final class EdgesOfPromisesTest extends Checks {
    private static final int LEAST = Integer.MIN_VALUE;
    private static final int MOST = Integer.MAX_VALUE;
    // TOP, NOTHING, a and 57 ANDS.
    private static final String PARTS_60 = "a&".repeat(57) + "a<a;";
    private static final String NAMES_24 = "a<b;c<d;e<f;g<h;i<j;k<l;m<n;o<p;q<r;s<t;u<v;w<x;";
    private static final String ROLES_8 = "a<<b;c<<d;e<<f;g<<h;";

    public static void main(String[] args) throws Exception {
        String[] all = new String[33];
        for (int k = 0; k < all.length; k++) {
            all[k] = "Promise " + (k + 1);
        }
        runAll(EdgesOfPromisesTest.class, all);
    }

    interface OfOne {
        long at(int k);
    }

    /** Just out of 0 to count less 1, on both sides and far away. */
    private static void noneBeyond(String what, int count, OfOne call) {
        int[] wrong = {-1, -2, -3, LEAST, count, count + 1, MOST};
        for (int k : wrong) {
            noSuch(what + " at " + k, () -> call.at(k));
        }
    }

    private static void noOther(String what, int count, OfOne call) {
        int[] wrong = {-1, -2, LEAST, count, count + 1, MOST};
        for (int k : wrong) {
            wrongArgument(what + " at " + k, () -> call.at(k));
        }
        for (int k = 0; k < count; k++) {
            call.at(k);
        }
    }

    // ---- 1: a new object

    static void p01_noAxioms() {
        says(1, "No AXIOMS.");
        LightClassifier x = new LightClassifier();
        int[] want = {0, 0, 0, 0, 2, 0, 0, 0, 0, 0, 0, 3};
        for (int k = 0; k < want.length; k++) {
            due("told(" + k + ")", x.told(k), want[k]);
        }
        noSuch("AXIOM 0", () -> x.axiom(0, 0));
        due("nothing to take back", x.undo(), NONE);
        due("no FAULT", x.fault(), NONE);
        due("VOID NAMES", x.nothing(), 0);
        due("MODULE of nothing", x.module(0, 0, 2), 0);
        due("print()", x.print(), 29853);
        due("ask of TOP", ask(x, "nothing<top"), 1);
        due("ask of NOTHING", ask(x, "top<nothing"), 0);
        due("MODEL", model(x, "top"), 1);
    }

    // ---- 2: feed

    static void p02_highestFirst() {
        says(2, "Twenty bytes come on the TAPE, of each number the highest first");
        LightClassifier x = new LightClassifier();
        x.feed(0x613C623B, 0x633C643B, 0x653C663B, 0x673C683B, 0x693C6A3B);
        due("a<b;c<d;e<f;g<h;i<j;", x.text(20), 5);
        for (int k = 0; k < 10; k++) {
            due("NAME " + k, x.letter(0, k, 0), 'a' + k);
        }
        x.feed(0x61203C20, 0x62203BFF, LEAST, MOST, NONE);
        due("bytes of 128 on, behind the text", x.text(7), 1);
        x.feed(0x613C623B, 0xFF000000, 0, 0, 0);
        due("a byte of 255 is told as one", x.text(5), 1 - 10);
        due("its place", x.fault(), 4);
    }

    static void p02_howMany() {
        says(2, "how many there are");
        LightClassifier x = new LightClassifier();
        for (int k = 1; k <= 20; k++) {
            due("feed " + k, x.feed(0, 0, 0, 0, 0), 20 * k);
        }
        x.text(0);
        due("behind an empty TAPE", x.feed(0, 0, 0, 0, 0), 20);
    }

    static void p02_noneBeyond400() {
        says(2, "NONE, doing nothing, if there would be more than 400.");
        LightClassifier x = new LightClassifier();
        feed(x, "a<b;" + " ".repeat(396));
        due("the TAPE", x.told(9), 400);
        due("feed", x.feed(-1, -1, -1, -1, -1), NONE);
        due("feed again", x.feed(-1, -1, -1, -1, -1), NONE);
        due("the TAPE stays", x.told(9), 400);
        due("it was no refusal", x.status(1), 0);
        due("its bytes stay", x.text(400), 1);
        due("feed behind it", x.feed(0, 0, 0, 0, 0), 20);
    }

    // ---- 3: text

    static void p03_firstBytes() {
        says(3, "The first n bytes of the TAPE (empty then) tell all AXIOMS anew");
        LightClassifier x = with("k<l;r<<s;");
        feed(x, "a<b;c<d;");
        due("4 of 20 bytes", x.text(4), 1);
        due("the TAPE is empty, all of it", x.told(9), 0);
        due("NAMES anew", x.told(2), 2);
        due("ROLES anew", x.told(3), 0);
        due("PARTS anew", x.told(4), 4);
        feed(x, "a<b;c<d;");
        due("of 0 bytes", x.text(0), 0);
        due("no AXIOMS", x.told(0), 0);
        due("no NAMES", x.told(2), 0);
        due("two PARTS", x.told(4), 2);
        due("the TAPE is empty", x.told(9), 0);
        feed(x, "a<b;" + " ".repeat(396));
        due("of all 400", x.text(400), 1);
    }

    static void p03_nothingOfEarlierTexts() {
        says(3, "tell all AXIOMS anew");
        String[] texts = {"v<nothing;a<some r v;r<<s;r*s<<t;c=d;some t top<e;", "a<b;", "", "b&a<c;c<some q d;", "a<b;some u a<c;", "a<b;",
            "x&y<nothing;x<some r y;r<<s;a<x&y;" + "z=x;".repeat(20), "p<q;q<p;"};
        LightClassifier x = new LightClassifier();
        for (int k = 0; k < 3 * texts.length; k++) {
            String text = texts[k * 5 % texts.length];
            LightClassifier y = with(text);
            tell(x, text);
            String what = "told behind others, " + text;
            due(what, all(x), all(y));
        }
        tell(x, "some r a<b;");
        tell(x, "");
        tell(x, "a<b;r<<s;");
        due("ROLES of a PART that there was", x.depends(0), 1);
    }

    /** Answers of every kind, some for each AXIOM, NAME and ROLE. */
    private static String all(LightClassifier x) {
        StringBuilder s = new StringBuilder(state(x));
        for (int k = 0; k < x.told(0) && k < 2; k++) {
            s.append(" axiom ").append(x.axiom(k, 2)).append(' ').append(x.atom(k)).append(' ').append(x.depends(k));
        }
        if (x.told(2) > 1) {
            s.append(" names ").append(x.node(0)).append(' ').append(x.node(1)).append(' ').append(x.reason(0, 1, NONE));
            s.append(' ').append(x.named(1)).append(' ').append(x.likeness(0, 1, 1));
        }
        return s.append(" ask ").append(ask(x, "top<nothing")).toString();
    }

    static void p03_eachOn() {
        says(3, "each ON (nothing can be taken back): how many");
        LightClassifier x = with("a<b;c<d;");
        x.turn(0);
        x.turn(1);
        due("how many", tell(x, "a<b;c<d;e<f;"), 3);
        due("ON", x.told(1), 3);
        due("what can be taken back", x.told(10), 0);
        due("undo()", x.undo(), NONE);
        due("ON still", x.told(1), 3);
        due("32", tell(x, "a<b;".repeat(32)), 32);
        due("32 ON", x.told(1), 32);
        due("none", tell(x, ""), 0);
    }

    static void p03_fault() {
        says(3, "or the FAULT less 10 (all stays, but the TAPE is empty).");
        String[] faulty = {"a", "abcdefg", NAMES_24 + "y<a;", "(((((((a", "a&".repeat(58) + "a<a;"};
        for (int k = 0; k < faulty.length; k++) {
            LightClassifier x = with("a<b;b<some r c;c<nothing;");
            x.turn(0);
            x.turn(2);
            String before = state(x);
            due("FAULT " + (k + 1), tell(x, faulty[k]), k + 1 - 10);
            due("the TAPE", x.told(9), 0);
            due("turned back", x.undo(), 1);
            x.turn(2);
            ask(x, "top<top");
            due("all stays", state(x), before);
            due("NAMES stay", x.letter(0, 2, 0), 'c');
            due("ROLES stay", x.letter(1, 0, 0), 'r');
            due("PARTS stay", x.part(4, 0), 0);
            due("no refusal", x.status(1), 0);
            due("words stay", ask(x, "some r c<a"), 0);
        }
    }

    static void p03_wrongLength() {
        says(3, "IllegalArgumentException: n is not 0 to the TAPE's bytes (it stays; so below).");
        LightClassifier x = with("a<b;");
        feed(x, "a<a");
        int[] wrong = {-1, 21, LEAST, MOST};
        for (int n : wrong) {
            wrongArgument("text(" + n + ")", () -> x.text(n));
            wrongArgument("ask(" + n + ")", () -> x.ask(n));
            wrongArgument("of(0, " + n + ")", () -> x.of(0, n));
            wrongArgument("model(" + n + ")", () -> x.model(n));
        }
        due("refusals", x.status(1), 16);
        due("the TAPE stays", x.told(9), 20);
        due("its bytes stay", x.ask(3), 1);
        wrongArgument("text(1) of an empty TAPE", () -> x.text(1));
        for (int k = 0; k < 20; k++) {
            x.feed(0, 0, 0, 0, 0);
        }
        wrongArgument("text(401)", () -> x.text(401));
        wrongArgument("model(401)", () -> x.model(401));
        due("text(400)", x.text(400), 1 - 10);
    }

    // ---- 4: fault

    static void p04_latest() {
        says(4, "The place of the FAULT of the latest text(), ask(), of(), model() that threw nothing");
        LightClassifier x = with("a<b;");
        tell(x, "a<b;c");
        due("of text()", x.fault(), 5);
        ask(x, "a<");
        due("of ask()", x.fault(), 2);
        of(x, 0, "a&b&");
        due("of of()", x.fault(), 4);
        model(x, "(a&b");
        due("of model()", x.fault(), 4);
        feed(x, "a");
        wrongArgument("text(99)", () -> x.text(99));
        wrongArgument("ask(99)", () -> x.ask(99));
        wrongArgument("of(3, 1)", () -> x.of(3, 1));
        wrongArgument("of(0, 99)", () -> x.of(0, 99));
        wrongArgument("model(99)", () -> x.model(99));
        due("behind what threw", x.fault(), 4);
        x.turn(0);
        x.undo();
        due("behind other calls", x.fault(), 4);
        LightClassifier y = new LightClassifier();
        model(y, " ".repeat(399) + "@");
        due("at the last byte", y.fault(), 399);
        model(y, " ".repeat(400));
        due("behind the last byte", y.fault(), 400);
    }

    static void p04_none() {
        says(4, "NONE without one, and ahead of any.");
        LightClassifier x = new LightClassifier();
        due("ahead of any", x.fault(), NONE);
        wrongArgument("text(1)", () -> x.text(1));
        due("ahead of any that threw nothing", x.fault(), NONE);
        tell(x, "a<");
        tell(x, "a<b;");
        due("text() without one", x.fault(), NONE);
        tell(x, "a<");
        ask(x, "a<b");
        due("ask() without one", x.fault(), NONE);
        tell(x, "a<");
        of(x, 0, "a");
        due("of() without one", x.fault(), NONE);
        tell(x, "a<");
        model(x, "a");
        due("model() without one", x.fault(), NONE);
    }

    // ---- 5: turn

    static void p05_onOff() {
        says(5, "An AXIOM becomes ON, if it is OFF, OFF, if it is ON: 1 it is ON now, 0 OFF.");
        LightClassifier x = with("a<b;" + "a<a;".repeat(30) + "b<c;");
        due("AXIOM 31", x.turn(31), 0);
        due("AXIOM 31 is OFF", x.axiom(31, 1), 0);
        due("AXIOM 30 is not", x.axiom(30, 1), 1);
        due("a is not below c", isBelow(x, 'a', 'c'), false);
        due("AXIOM 31 again", x.turn(31), 1);
        due("a is below c", isBelow(x, 'a', 'c'), true);
        due("AXIOM 0", x.turn(0), 0);
        due("ON", x.told(1), 31);
    }

    static void p05_nothingOfWhatWasOn() {
        says(5, "OFF, if it is ON: 1 it is ON now, 0 OFF.");
        LightClassifier x = with("a<some r v;v<nothing;b=c;r<<s;some s v<d;");
        due("VOID NAMES", x.nothing(), 3);
        due("NAMES of b's NODE", x.nodeOf(x.node(2), 0), 4 | 8);
        due("ask, VOID", ask(x, "a<b"), 1);
        x.turn(0);
        due("VOID NAMES without the LINK", x.nothing(), 2);
        due("ask without the LINK", ask(x, "a<b"), 0);
        due("LINKS", x.told(6), 3);
        x.turn(0);
        x.turn(1);
        due("no VOID NAMES", x.nothing(), 0);
        due("ask, not VOID", ask(x, "a<b"), 0);
        due("SOME", ask(x, "a<d"), 1);
        x.turn(2);
        due("NAMES of b's NODE alone", x.nodeOf(x.node(2), 0), 4);
        x.turn(3);
        due("UNDER", x.under(0), 1);
        due("SOME without the ROLES", ask(x, "a<d"), 0);
    }

    static void p05_answersFollow() {
        says(5, "An AXIOM becomes ON, if it is OFF, OFF, if it is ON");
        LightClassifier x = with("a<b;b<c;a<c;v<a;v<d;a&d<nothing;r<<s;");
        String[] states = new String[2];
        for (int turns = 0; turns < 3; turns++) {
            boolean on = turns % 2 == 0;
            due("below", isBelow(x, 'a', 'b'), on);
            due("reason", x.reason(0, 2, NONE), on ? 2 : 1);
            due("needed", x.needed(0, 2), on ? 0 : 4);
            due("enough", x.enough(0, 2), 4);
            due("repair", x.repair(0, 2), on ? 5 : 4);
            due("nodes", x.nodeOf(0, 1), on ? 2 : 4);
            due("depends", x.depends(2), on ? 7 : 4);
            due("ask", ask(x, "a<b&c"), on ? 1 : 0);
            due("model", model(x, "b") >>> 2 & 3, on ? 3 : 2);
            if (turns > 1) {
                due("all as it was", state(x).replaceFirst("told.*on", ""), states[0]);
            } else {
                states[turns] = state(x).replaceFirst("told.*on", "");
            }
            x.turn(0);
        }
    }

    static void p05_noSuchAxiom() {
        says(5, "NoSuchElementException: no such AXIOM");
        LightClassifier x = with("a<b;c<d;");
        noneBeyond("turn", 2, k -> x.turn(k));
        noneBeyond("axiom", 2, k -> x.axiom(k, 0));
        noneBeyond("atom", 2, k -> x.atom(k));
        noneBeyond("depends", 2, k -> x.depends(k));
        due("none is turned", x.told(10), 0);
        LightClassifier y = with("a<b;".repeat(32));
        noneBeyond("turn", 32, k -> y.turn(k));
        noneBeyond("atom", 32, k -> y.atom(k));
        noneBeyond("depends", 32, k -> y.depends(k));
    }

    static void p05_noSuchName() {
        says(5, "NAME");
        for (String text : new String[] {"", "a<b;some r c<a;", NAMES_24 + "some r a<b;"}) {
            LightClassifier x = with(text);
            int n = x.told(2);
            noneBeyond("named", n, k -> x.named(k));
            noneBeyond("node", n, k -> x.node(k));
            noneBeyond("letter", n, k -> x.letter(0, k, 0));
            int good = n > 0 ? n - 1 : 0;
            noneBeyond("common", n, k -> x.common(k, good));
            noneBeyond("common", n, k -> x.common(good, k));
            noneBeyond("needed", n, k -> x.needed(k, good));
            noneBeyond("needed", n, k -> x.needed(good, k));
            noneBeyond("enough", n, k -> x.enough(k, good));
            noneBeyond("enough", n, k -> x.enough(good, k));
            noneBeyond("reason", n, k -> x.reason(k, good, NONE));
            noneBeyond("reason", n, k -> x.reason(good, k, NONE));
            noneBeyond("repair", n, k -> x.repair(k, good));
            noneBeyond("repair", n, k -> x.repair(good, k));
            noneBeyond("likeness", n, k -> x.likeness(k, good, 0));
            noneBeyond("likeness", n, k -> x.likeness(good, k, 0));
        }
    }

    static void p05_noSuchRole() {
        says(5, "ROLE");
        for (String text : new String[] {"a<b;", "a<some r b;", ROLES_8}) {
            LightClassifier x = with(text);
            int n = x.told(3);
            noneBeyond("under", n, k -> x.under(k));
            noneBeyond("link", n, k -> x.link(0, k, 0) ? 1 : 0);
            noneBeyond("letter", n, k -> x.letter(1, k, 0));
        }
    }

    static void p05_noSuchPart() {
        says(5, "PART");
        for (String text : new String[] {"r<<s;", "a<some r b;", PARTS_60 + "r<<r;"}) {
            LightClassifier x = with(text);
            int n = x.told(4);
            noneBeyond("part", n, k -> x.part(k, 0));
            noneBeyond("below", n, k -> x.below(k, n - 1) ? 1 : 0);
            noneBeyond("below", n, k -> x.below(n - 1, k) ? 1 : 0);
            noneBeyond("when", n, k -> x.when(k, n - 1));
            noneBeyond("when", n, k -> x.when(n - 1, k));
            noneBeyond("why", n, k -> x.why(k, n - 1, 0));
            noneBeyond("why", n, k -> x.why(n - 1, k, 0));
            noneBeyond("link", n, k -> x.link(k, 0, n - 1) ? 1 : 0);
            noneBeyond("link", n, k -> x.link(n - 1, 0, k) ? 1 : 0);
        }
        LightClassifier y = with("a<b;");
        ask(y, "a&b<some r a");
        ask(y, "a&b<a");
        noneBeyond("a PART of a question", 4, k -> y.part(k, 0));
    }

    static void p05_noSuchNode() {
        says(5, "NODE");
        LightClassifier x = with("a=b;v<nothing;top<t;c<d;");
        due("NODES", x.told(7), 3);
        for (int what = 0; what < 6; what++) {
            int kept = what;
            noneBeyond("nodeOf", 3, k -> x.nodeOf(k, kept));
        }
        LightClassifier y = with("top<nothing;a<b;");
        noneBeyond("nodeOf, all VOID", 0, k -> y.nodeOf(k, 0));
        LightClassifier z = with("top<a;a<b;");
        noneBeyond("nodeOf, all TOP", 0, k -> z.nodeOf(k, 0));
        LightClassifier w = with(NAMES_24);
        noneBeyond("nodeOf, 24 NODES", 24, k -> w.nodeOf(k, 0));
    }

    static void p05_noSuchKind() {
        says(5, "kind of WORD (so below).");
        LightClassifier x = with("a<some r b;r<<s;t<<u;");
        noneBeyond("letter", 2, k -> x.letter(k, 0, 0));
        due("counted", x.status(0), 7);
    }

    // ---- 6: undo

    static void p06_asAhead() {
        says(6, "All is as ahead of the latest turn()");
        LightClassifier x = with("a<b;b<c;c<nothing;r<<s;a<c;");
        String[] states = new String[5];
        int[] turns = {2, 0, 2, 3};
        for (int k = 0; k < 4; k++) {
            states[k] = state(x);
            x.turn(turns[k]);
        }
        for (int k = 3; k >= 0; k--) {
            x.undo();
            due("behind undo " + k, state(x), states[k]);
        }
        x.turn(1);
        x.turn(1);
        x.undo();
        due("one turned twice", x.axiom(1, 1), 0);
        x.undo();
        due("one turned twice", x.axiom(1, 1), 1);
        x.turn(0);
        x.undo();
        x.undo();
        due("undo() itself is not taken back", x.axiom(0, 1), 1);
        due("answers follow", isBelow(x, 'a', 'c'), true);
        due("REASONS follow", x.reason(0, 2, NONE), 2);
        x.turn(4);
        due("REASONS follow", x.reason(0, 2, NONE), 1);
        x.undo();
        due("REASONS follow", x.reason(0, 2, NONE), 2);
    }

    static void p06_latest20() {
        says(6, "(the latest 20 can be taken back)");
        for (int more = 0; more < 3; more++) {
            LightClassifier x = with("a<b;".repeat(32));
            for (int k = 0; k < 20 + more; k++) {
                due("what can be taken back", x.told(10), Math.min(k, 20));
                x.turn(k);
            }
            for (int k = 19; k >= 0; k--) {
                due("undo()", x.undo(), k);
            }
            due("behind 20", x.undo(), NONE);
            due("what is OFF still", 32 - x.told(1), more);
            for (int k = 0; k < more; k++) {
                due("the earliest stay OFF", x.axiom(k, 1), 0);
            }
        }
        LightClassifier y = with("a<b;".repeat(32));
        for (int k = 0; k < 30; k++) {
            y.turn(k);
        }
        for (int k = 0; k < 5; k++) {
            y.undo();
        }
        due("15 still can", y.told(10), 15);
        for (int k = 0; k < 10; k++) {
            y.turn(31);
        }
        due("20 again", y.told(10), 20);
        for (int k = 0; k < 20; k++) {
            y.undo();
        }
        due("back to 15 OFF", y.told(1), 32 - 15);
        due("the 15th is OFF", y.axiom(14, 1), 0);
        due("the 16th is ON", y.axiom(15, 1), 1);
    }

    static void p06_howMany() {
        says(6, "how many still can; NONE: none could.");
        LightClassifier x = with("a<b;");
        due("none could", x.undo(), NONE);
        x.turn(0);
        x.turn(0);
        due("one still can", x.undo(), 1);
        due("none still can", x.undo(), 0);
        due("none could", x.undo(), NONE);
        due("it is ON", x.axiom(0, 1), 1);
        due("it was no refusal", x.status(2), 0);
        x.turn(0);
        noSuch("turn(1)", () -> x.turn(1));
        due("a turn() that threw is none", x.undo(), 0);
    }

    // ---- 7: told

    private static final String TOLD = "a<some r b;some s b<c;r<<s;c&b<nothing;d<c&b;top<t;e=a;t<<t;";

    static void p07_axioms() {
        says(7, "0 AXIOMS, 1 those that are ON");
        LightClassifier x = with(TOLD);
        due("AXIOMS", x.told(0), 8);
        due("ON", x.told(1), 8);
        x.turn(7);
        x.turn(2);
        due("AXIOMS", x.told(0), 8);
        due("ON", x.told(1), 6);
        LightClassifier y = with("a<b;".repeat(32));
        for (int k = 0; k < 32; k++) {
            y.turn(k);
        }
        due("none ON", y.told(1), 0);
    }

    static void p07_words() {
        says(7, "2 NAMES, 3 ROLES, 4 PARTS");
        LightClassifier x = with(TOLD);
        due("NAMES", x.told(2), 6);
        due("ROLES", x.told(3), 3);
        due("PARTS", x.told(4), 11);
        for (int k = 0; k < 8; k++) {
            x.turn(k);
        }
        due("NAMES, all OFF", x.told(2), 6);
        due("ROLES, all OFF", x.told(3), 3);
        due("PARTS, all OFF", x.told(4), 11);
        due("NAMES, at most", with(NAMES_24).told(2), 24);
        due("ROLES, at most", with(ROLES_8).told(3), 8);
        due("PARTS, at most", with(PARTS_60).told(4), 60);
    }

    static void p07_rounds() {
        says(7, "5 ROUNDS, 6 LINKS");
        LightClassifier x = with("a<some r b;b<some s c;r*s<<t;");
        // 4 r b; a r b, 6 s c, b s c; 4 t c; a t c.
        due("ROUNDS", x.told(5), 3);
        due("LINKS", x.told(6), 6);
        x.turn(2);
        due("ROUNDS without the CHAIN", x.told(5), 2);
        due("LINKS without the CHAIN", x.told(6), 4);
        LightClassifier y = with("top<some r top;r*r<<s;s<<u;u*r<<v;");
        // Every PART to TOP, by r; by s, as r, r; by v, as s is UNDER u.
        due("LINKS of TOP and NOTHING and the SOME", y.told(6), 9);
    }

    static void p07_nodes() {
        says(7, "7 NODES (without TOP)");
        due("NODES", with("a=b;top<t;c<t;v<nothing;").told(7), 2);
        due("TOP alone", with("top<t;").told(7), 0);
        due("24", with(NAMES_24).told(7), 24);
    }

    static void p07_void() {
        says(7, "8 VOID NAMES");
        due("two", with("a<b;b<nothing;c<some r d;").told(8), 2);
        due("not the other PARTS", with("a&b<nothing;").told(8), 0);
        due("all 24", with(NAMES_24 + "top<nothing;").told(8), 24);
    }

    static void p07_tape() {
        says(7, "9 bytes of the TAPE, 10 how many can be taken back");
        LightClassifier x = with("a<b;");
        due("TAPE", x.told(9), 0);
        feed(x, "a");
        due("TAPE", x.told(9), 20);
        feed(x, " ".repeat(380));
        due("TAPE", x.told(9), 400);
        due("back", x.told(10), 0);
        for (int k = 0; k < 25; k++) {
            x.turn(0);
        }
        due("back", x.told(10), 20);
    }

    static void p07_above() {
        says(7, "11 all PARTS in all ABOVE together.");
        due("none told", with("").told(11), 3);
        // TOP 1, NOTHING 2, a: a, TOP, b, c; b: b, TOP, c; c: c, TOP.
        due("three", with("a<b;b<c;").told(11), 3 + 4 + 3 + 2);
        // NOTHING brings no others into ABOVE.
        due("VOID ones", with("a<nothing;b<b;").told(11), 3 + 3 + 2);
        due("the most there are, but for NOTHING's", with(PARTS_60).told(11), 1 + 2 + 58 * 59);
        due("all in all", with("top=a;a<nothing;").told(11), 9);
    }

    static void p07_noOtherWhat() {
        says(7, "IllegalArgumentException: another what (so below).");
        LightClassifier x = with("a<b;");
        noOther("told", 12, k -> x.told(k));
        noOther("axiom", 5, k -> x.axiom(0, k));
        noOther("part", 3, k -> x.part(0, k));
        noOther("why", 2, k -> x.why(0, 0, k));
        noOther("why, not above", 2, k -> x.why(0, 2, k));
        noOther("nodeOf", 6, k -> x.nodeOf(0, k));
        noOther("likeness", 2, k -> x.likeness(0, 1, k));
        noOther("of", 3, k -> x.of(k, 0));
        due("counted", x.status(1), 48);
    }

    // ---- 8: axiom

    private static final String AXIOMS = "a<b;c=a;r<<s;r*t<<s;top<nothing;some r a&b=b&c;";

    static void p08_kindAndOn() {
        says(8, "Of an AXIOM: 0 its kind, 1 1 ON, 0 OFF");
        LightClassifier x = with(AXIOMS);
        int[] kinds = {0, 1, 2, 3, 0, 1};
        for (int k = 0; k < kinds.length; k++) {
            due("kind of " + k, x.axiom(k, 0), kinds[k]);
            due(k + " is ON", x.axiom(k, 1), 1);
            x.turn(k);
            due(k + " is OFF", x.axiom(k, 1), 0);
            due("kind of " + k + ", OFF", x.axiom(k, 0), kinds[k]);
        }
    }

    static void p08_parts() {
        says(8, "2, 3, 4: of kind 0, 1 the PARTS C, D, and NONE");
        LightClassifier x = with(AXIOMS);
        // 2 a, 3 b, 4 c, 5 some r a, 6 some r a & b, 7 b & c.
        int[][] want = {{0, 2, 3}, {1, 4, 2}, {4, 0, 1}, {5, 6, 7}};
        for (int[] row : want) {
            due("C of " + row[0], x.axiom(row[0], 2), row[1]);
            due("D of " + row[0], x.axiom(row[0], 3), row[2]);
            due("none of " + row[0], x.axiom(row[0], 4), NONE);
        }
        due("PART 59", with(PARTS_60).axiom(0, 2), 59);
    }

    static void p08_roles() {
        says(8, "of kind 2 r, s, NONE; of kind 3 r, s, t.");
        LightClassifier x = with(AXIOMS);
        int[][] want = {{2, 0, 1, NONE}, {3, 0, 2, 1}};
        for (int[] row : want) {
            for (int what = 2; what < 5; what++) {
                due("axiom(" + row[0] + ", " + what + ")", x.axiom(row[0], what), row[what - 1]);
            }
        }
        due("ROLE 7", with(ROLES_8 + "h*h<<h;").axiom(4, 4), 7);
        due("one ROLE twice", with("r<<r;").axiom(0, 3), 0);
    }

    // ---- 9: part

    static void p09_what() {
        says(9, "Of a PART: 0 what it is (0 NAME, 1 TOP, 2 NOTHING, 3 AND, 4 SOME)");
        LightClassifier x = with("a&b<some r a;");
        int[] want = {1, 2, 0, 0, 3, 4};
        for (int k = 0; k < want.length; k++) {
            due("part(" + k + ", 0)", x.part(k, 0), want[k]);
        }
    }

    static void p09_within() {
        says(9, "1, 2: its NAME and NONE, NONE twice, the PARTS of an AND, the ROLE and the PART of a SOME.");
        LightClassifier x = with("r<<s;c<c;a&b<some s a;");
        // 2 c, 3 a, 4 b, 5 a & b, 6 some s a.
        int[][] want = {{NONE, NONE}, {NONE, NONE}, {0, NONE}, {1, NONE}, {2, NONE}, {3, 4}, {1, 3}};
        for (int k = 0; k < want.length; k++) {
            due("part(" + k + ", 1)", x.part(k, 1), want[k][0]);
            due("part(" + k + ", 2)", x.part(k, 2), want[k][1]);
        }
        due("the last of 60", with(PARTS_60).part(59, 1), 58);
        due("the last of 60", with(PARTS_60).part(59, 2), 2);
        LightClassifier y = with("some r some r top<nothing&nothing;");
        due("of TOP", y.part(2, 2), 0);
        due("of a SOME", y.part(3, 2), 2);
        due("of NOTHING twice", y.part(4, 1), 1);
    }

    // ---- 10: letter

    static void p10_letters() {
        says(10, "Letter i of a WORD: of a NAME (kind 0), a ROLE (1).");
        LightClassifier x = with("abcdef<z;r<<zyxwvu;az<<r;");
        for (int i = 0; i < 6; i++) {
            due("NAME 0, letter " + i, x.letter(0, 0, i), 'a' + i);
            due("ROLE 1, letter " + i, x.letter(1, 1, i), 'z' - i);
        }
        due("NAME 1", x.letter(0, 1, 0), 'z');
        due("ROLE 0", x.letter(1, 0, 0), 'r');
        due("ROLE 2", x.letter(1, 2, 0), 'a');
        due("ROLE 2", x.letter(1, 2, 1), 'z');
    }

    static void p10_noSuchLetter() {
        says(10, "NoSuchElementException: also no such letter.");
        LightClassifier x = with("abcdef<z;r<<abc;");
        noneBeyond("of six letters", 6, i -> x.letter(0, 0, i));
        noneBeyond("of one letter", 1, i -> x.letter(0, 1, i));
        noneBeyond("of one letter of a ROLE", 1, i -> x.letter(1, 0, i));
        noneBeyond("of three letters of a ROLE", 3, i -> x.letter(1, 1, i));
        due("counted", x.status(0), 28);
    }

    // ---- 11 to 16: PARTS and LINKS

    static void p11_named() {
        says(11, "The PART that a NAME is; NONE: it is none (it cannot be).");
        LightClassifier x = with("some r a<b&c;r<<s;nothing<d;");
        int[] want = {2, 4, 5, 7};
        for (int k = 0; k < want.length; k++) {
            due("named(" + k + ")", x.named(k), want[k]);
            due("back", x.part(want[k], 1), k);
        }
        x.turn(2);
        due("of an AXIOM that is OFF", x.named(3), 7);
        LightClassifier y = with(NAMES_24);
        due("the 24th", y.named(23), 25);
        tell(y, "b<a;(((((((");
        due("behind a FAULT", y.named(0), 2);
        ask(y, "b&c<b");
        due("behind a question", y.named(1), 3);
    }

    static void p12_below() {
        says(12, "Whether PART x is below PART y.");
        LightClassifier x = with("a<b;v<nothing;a<some r c;");
        // 2 a, 3 b, 4 v, 5 c, 6 some r c.
        int[] above = {1, 127, 1 | 4 | 8 | 64, 1 | 8, 127, 1 | 32, 1 | 64};
        for (int p = 0; p < 7; p++) {
            for (int q = 0; q < 7; q++) {
                due("below(" + p + ", " + q + ")", x.below(p, q), (above[p] >>> q & 1) != 0);
            }
        }
        LightClassifier y = with(PARTS_60);
        due("59 below 58", y.below(59, 58), true);
        due("TOP below 59", y.below(0, 59), false);
        due("NOTHING below 59", y.below(1, 59), true);
    }

    static void p13_when() {
        says(13, "WHEN; NONE: x is not below y.");
        LightClassifier x = with("a<b;b<c;v<a;v<nothing;");
        due("itself", x.when(2, 2), 0);
        due("one", x.when(2, 3), 1);
        due("two", x.when(2, 4), 2);
        due("not below", x.when(3, 2), NONE);
        due("VOID, but in ABOVE", whenIs(x, 'v', 'c'), 3);
        due("TOP", x.when(0, 2), NONE);
        due("NOTHING", x.when(1, 2), 0);
        due("NOTHING in what is VOID", x.when(part(x, 'v'), 1), 1);
        due("57 ROUNDS", with(PARTS_60).when(2, 59), 57);
        due("out of 57 ANDS", with(PARTS_60).when(59, 3), 2);
    }

    static void p14_leastAxiom() {
        says(14, "WHY: 0 the rule; 1 of rule 1 the least AXIOM by which it is so");
        LightClassifier x = with("c<b;a<b;b=a;a<b;");
        int a = part(x, 'a');
        int b = part(x, 'b');
        due("rule", x.why(a, b, 0), 1);
        due("the least", x.why(a, b, 1), 1);
        x.turn(1);
        due("the least that is ON, EQUAL", x.why(a, b, 1), 2);
        x.turn(2);
        due("the last", x.why(a, b, 1), 3);
        x.turn(3);
        due("none", x.why(a, b, 1), NONE);
        LightClassifier y = with("a<a;".repeat(31) + "a<b;");
        due("AXIOM 31", y.why(2, 3, 1), 31);
        LightClassifier z = with("top<b;a<b;");
        due("by TOP", z.why(part(z, 'a'), part(z, 'b'), 1), 0);
    }

    static void p14_leastAnd() {
        says(14, "of 2 the least such AND");
        LightClassifier x = with("a<c&d;a<b&c;a<c&c;e<b&c;");
        int a = part(x, 'a');
        int c = part(x, 'c');
        due("rule", x.why(a, c, 0), 2);
        due("the least", x.why(a, c, 1), x.axiom(0, 3));
        x.turn(0);
        due("the next one, as the second of it", x.why(a, c, 1), x.axiom(1, 3));
        x.turn(1);
        due("the last one", x.why(a, c, 1), x.axiom(2, 3));
        LightClassifier y = with("b&c<b&c;a<d;d<b&c;a<c&e;");
        // b & c has the lesser number, but comes a ROUND later.
        due("the least of that ROUND", y.why(part(y, 'a'), part(y, 'c'), 1), y.axiom(3, 3));
    }

    static void p14_leastLinked() {
        says(14, "of 4, 5 the least PART that is linked to by which it is so");
        LightClassifier x = with("b<d;c<d;e<e;some s d<f;a<some r c&(some r b&some r e);r<<s;");
        int a = part(x, 'a');
        int some = x.axiom(3, 2);
        due("rule", x.why(a, some, 0), 4);
        due("c came first", x.why(a, some, 1), part(x, 'c'));
        LightClassifier y = with("b<d;c<d;e<e;some s d<f;a<some r c;a<some r b;a<some r e;r<<s;");
        due("the least of two", y.why(part(y, 'a'), y.axiom(3, 2), 1), part(y, 'b'));
        LightClassifier z = with("u<u;w<nothing;v<nothing;a<some r v;a<some s w;a<some r u;");
        due("rule 5", z.why(part(z, 'a'), 1, 0), 5);
        due("the least of two, VOID", z.why(part(z, 'a'), 1, 1), part(z, 'w'));
        due("TOP linked to", with("a<some r top;r<<s;some s top<b;").why(2, 4, 1), 0);
    }

    static void p14_noneOfOthers() {
        says(14, "NONE of others");
        LightClassifier x = with("a<b;a<c;b&c<d;");
        due("rule 0", x.why(2, 2, 0), 0);
        due("of rule 0", x.why(2, 2, 1), NONE);
        due("of TOP", x.why(2, 0, 1), NONE);
        due("rule 3", x.why(2, x.axiom(2, 2), 0), 3);
        due("of rule 3", x.why(2, x.axiom(2, 2), 1), NONE);
        due("rule 3 of 60 PARTS", with(PARTS_60).why(2, 59, 0), 3);
        LightClassifier y = with("a<b;a<c;b&c<d;" + "d<d;".repeat(29));
        due("rule 3 beside 32 AXIOMS", y.why(2, y.axiom(2, 2), 0), 3);
    }

    static void p14_noneBoth() {
        says(14, "NONE (both), if y is not in ABOVE(x).");
        LightClassifier x = with("a<b;v<nothing;");
        due("b, a", x.why(3, 2, 0), NONE);
        due("b, a", x.why(3, 2, 1), NONE);
        due("below by NOTHING alone", x.why(4, 2, 0), NONE);
        due("below by NOTHING alone", x.why(4, 2, 1), NONE);
        due("NOTHING itself", x.why(1, 2, 0), NONE);
        due("TOP", x.why(0, 1, 1), NONE);
    }

    static void p15_link() {
        says(15, "Whether there is the LINK x r y.");
        LightClassifier x = with("a<some r b;r<<s;v<some s nothing;");
        // 2 a, 3 b, 4 some r b, 5 v, 6 some s nothing.
        String all = "2 0 3,4 0 3,5 1 1,6 1 1,";
        for (int p = 0; p < 7; p++) {
            for (int r = 0; r < 2; r++) {
                for (int q = 0; q < 7; q++) {
                    due("link(" + p + ", " + r + ", " + q + ")", x.link(p, r, q), all.contains(p + " " + r + " " + q + ","));
                }
            }
        }
        LightClassifier y = with(ROLES_8 + "some h " .repeat(50) + "a<a;");
        due("ROLE 7, high PARTS", y.link(52, 7, 51), true);
        due("ROLE 7, high PARTS", y.link(51, 7, 52), false);
    }

    static void p16_under() {
        says(16, "ROLES that a ROLE is UNDER, as bits.");
        LightClassifier x = with("r<<s;s<<t;u<<s;");
        int[] want = {7, 6, 4, 8 | 6};
        for (int k = 0; k < want.length; k++) {
            due("under(" + k + ")", x.under(k), want[k]);
        }
        x.turn(1);
        due("with one OFF", x.under(0), 3);
        due("all 8", with("h<<a;a<<b;b<<c;c<<d;d<<e;e<<f;f<<g;g<<h;").under(0), 255);
        due("ROLES of SOME alone", with("a<some r b;").under(0), 1);
    }

    // ---- 17 to 20: the hierarchy

    static void p17_node() {
        says(17, "The NODE of a NAME; -2 TOP; NONE: it is VOID.");
        LightClassifier x = with("v<nothing;top<t;b=a;c<b;w<v;u=t;");
        // NAMES: 0 v, 1 t, 2 b, 3 a, 4 c, 5 w, 6 u.
        int[] want = {NONE, -2, 0, 0, 1, NONE, -2};
        for (int k = 0; k < want.length; k++) {
            due("node(" + k + ")", x.node(k), want[k]);
        }
        due("all is VOID, TOP, too", with("top<nothing;a<a;").node(0), NONE);
    }

    static void p18_names() {
        says(18, "Of a NODE: 0 its NAMES");
        LightClassifier x = with("a<b;c=a;top<t;d<c;c<d;");
        due("a, c, d", x.nodeOf(0, 0), 1 | 4 | 16);
        due("b", x.nodeOf(1, 0), 2);
        due("all 24", with("a=b;b=c;c=d;d=e;e=f;f=g;g=h;h=i;i=j;j=k;k=l;l=m;m=n;n=o;o=p;p=q;q=r;r=s;s=t;t=u;u=v;v=w;w=x;").nodeOf(0, 0), (1 << 24) - 1);
    }

    static void p18_parents() {
        says(18, "1 NODES it is a CHILD of (0: of TOP alone)");
        LightClassifier x = with("a<b;a<c;b<d;c<d;a<d;top<t;");
        int[] want = {6, 8, 8, 0};
        for (int k = 0; k < want.length; k++) {
            due("nodeOf(" + k + ", 1)", x.nodeOf(k, 1), want[k]);
        }
    }

    static void p18_children() {
        says(18, "2 its CHILDREN");
        LightClassifier x = with("a<b;a<c;b<d;c<d;a<d;v<d;v<nothing;");
        int[] want = {0, 1, 1, 6};
        for (int k = 0; k < want.length; k++) {
            due("nodeOf(" + k + ", 2)", x.nodeOf(k, 2), want[k]);
        }
    }

    static void p18_allAbove() {
        says(18, "3 all NODES it is below (not itself)");
        LightClassifier x = with("a<b;b<c;d=c;top<t;a<t;");
        int[] want = {6, 4, 0};
        for (int k = 0; k < want.length; k++) {
            due("nodeOf(" + k + ", 3)", x.nodeOf(k, 3), want[k]);
        }
    }

    static void p18_allBelow() {
        says(18, "4 all below it (not itself)");
        LightClassifier x = with("a<b;b<c;d=c;v<a;v<nothing;");
        int[] want = {0, 1, 3};
        for (int k = 0; k < want.length; k++) {
            due("nodeOf(" + k + ", 4)", x.nodeOf(k, 4), want[k]);
        }
    }

    static void p18_depth() {
        says(18, "5 DEPTH.");
        LightClassifier x = with("a<b;b<c;a<d;e<e;top<t;c<t;");
        int[] want = {3, 2, 1, 1, 1};
        for (int k = 0; k < want.length; k++) {
            due("nodeOf(" + k + ", 5)", x.nodeOf(k, 5), want[k]);
        }
    }

    static void p19_nothing() {
        says(19, "VOID NAMES.");
        due("none told", with("").nothing(), 0);
        due("none VOID", with("a<b;").nothing(), 0);
        due("by LINKS", with("c<some r b;b<a;a<nothing;d<c;e<e;").nothing(), 15);
        due("all 24", with(NAMES_24 + "top<nothing;").nothing(), (1 << 24) - 1);
        due("the last one", with(NAMES_24 + "x<nothing;").nothing(), 3 << 22);
        due("nothing below all is none", with("nothing<a;").nothing(), 0);
    }

    static void p20_common() {
        says(20, "COMMON of two NAMES that are not VOID, as bits of NODES.");
        LightClassifier x = with("v<nothing;b<c;a<c;a<d;b<d;d<e;f=c;");
        // NAMES: 0 v, 1 b, 2 c, 3 a, 4 d, 5 e, 6 f. NODES: 0 b, 1 c and f, 2 a, 3 d, 4 e.
        due("a, b", x.common(3, 1), 2 | 8);
        due("b, a", x.common(1, 3), 2 | 8);
        due("c, f: bits of NODES, not NAMES", x.common(2, 6), 2);
        due("c, d: none", x.common(2, 4), 0);
        due("a, e", x.common(3, 5), 16);
    }

    static void p20_void() {
        says(20, "IllegalStateException: one is VOID (behind the other).");
        LightClassifier x = with("v<nothing;w<v;a<b;");
        wrongState("v, a", () -> x.common(0, 2));
        wrongState("a, v", () -> x.common(2, 0));
        wrongState("v, w", () -> x.common(0, 1));
        wrongState("v, v", () -> x.common(0, 0));
        noSuch("v, none", () -> x.common(0, 4));
        noSuch("none, v", () -> x.common(-1, 0));
        due("counted", x.status(2), 4);
        due("counted", x.status(0), 2);
        x.turn(0);
        due("no more VOID", x.common(0, 1), 1 << x.node(0));
    }

    // ---- 21 to 25: which AXIOMS

    static void p21_needed() {
        says(21, "NEEDED, as bits");
        LightClassifier x = with("a<b;b<c;a<c;c<d;");
        due("a, d", x.needed(0, 3), 8);
        due("a, c", x.needed(0, 2), 0);
        due("a, b", x.needed(0, 1), 1);
        due("32 AXIOMS", with("a<b;" + "a<a;".repeat(30) + "b<c;").needed(0, 2), 1L << 31 | 1);
        due("by VOID", with("v<a;a<nothing;b<b;").needed(0, 2), 3);
    }

    static void p21_notBelow() {
        says(21, "0 also if a is not below b.");
        LightClassifier x = with("a<b;");
        due("not below", x.needed(1, 0), 0);
        due("itself", x.needed(0, 0), 0);
        x.turn(0);
        due("no more below", x.needed(0, 1), 0);
    }

    static void p22_enough() {
        says(22, "ENOUGH, as bits");
        LightClassifier x = with("a<b;b<c;a<c;c<d;");
        due("a, c", x.enough(0, 2), 4);
        due("a, d", x.enough(0, 3), 12);
        due("itself", x.enough(0, 0), 0);
        x.turn(2);
        due("one OFF", x.enough(0, 3), 11);
        due("AXIOM 31", with("a<a;".repeat(31) + "a<b;").enough(0, 1), 1L << 31);
    }

    static void p22_notBelow() {
        says(22, "NONE: a is not below b.");
        LightClassifier x = with("a<b;");
        due("not below", x.enough(1, 0), NONE);
        x.turn(0);
        due("no more below", x.enough(0, 1), NONE);
    }

    static void p23_howMany() {
        says(23, "REASONS: k NONE: how many (-3: TOO MANY)");
        due("not below", with("a<b;").reason(1, 0, NONE), 0);
        due("by no AXIOMS", with("a<b;").reason(0, 0, NONE), 1);
        for (int k = 1; k < 8; k++) {
            LightClassifier x = with("a<b;".repeat(k));
            due(k + " REASONS", x.reason(0, 1, NONE), k < 5 ? k : -3);
        }
        due("32 REASONS", with("a<b;".repeat(32)).reason(0, 1, NONE), -3);
        LightClassifier y = with("a<b;a<c;a<d;a<e;b<f;c<f;d<f;e<f;f<z;f<z;");
        due("4 by 2 REASONS", y.reason(0, name(y, 'z'), NONE), -3);
        y.turn(9);
        due("4 by 1", y.reason(0, name(y, 'z'), NONE), 4);
    }

    static void p23_theKth() {
        says(23, "k: the k-th");
        LightClassifier x = with("a<b;a<b;a<b;a<b;");
        for (int k = 0; k < 4; k++) {
            due("reason " + k, x.reason(0, 1, k), 1 << k);
        }
        due("how many, behind them", x.reason(0, 1, NONE), 4);
        ask(x, "b<a");
        x.why(2, 3, 1);
        x.needed(1, 0);
        due("with other questions between", x.reason(0, 1, 3), 8);
        due("of no AXIOMS", x.reason(0, 0, 0), 0);
        due("AXIOM 31", with("a<a;".repeat(31) + "a<b;").reason(0, 1, 0), 1L << 31);
    }

    static void p23_none() {
        says(23, "NONE: there are not so many, or TOO MANY, k is below NONE.");
        LightClassifier x = with("a<b;a<b;a<b;a<b;a<b;");
        due("TOO MANY, the first", x.reason(0, 1, 0), NONE);
        due("TOO MANY, the fourth", x.reason(0, 1, 3), NONE);
        due("TOO MANY, the fifth", x.reason(0, 1, 4), NONE);
        due("TOO MANY, below NONE", x.reason(0, 1, -2), NONE);
        x.turn(4);
        int[] wrong = {4, 5, MOST, -2, -3, LEAST};
        for (int k : wrong) {
            due("of four, " + k, x.reason(0, 1, k), NONE);
        }
        due("the fourth", x.reason(0, 1, 3), 8);
        due("of one, of no AXIOMS", x.reason(0, 0, 1), NONE);
        due("not below", x.reason(1, 0, 0), NONE);
        due("not below, below NONE", x.reason(1, 0, -2), NONE);
        due("no refusal", x.status(1) + x.status(0), 0);
    }

    static void p24_repair() {
        says(24, "REPAIR, as bits");
        LightClassifier x = with("a<b;b<c;a<c;c<d;");
        due("a, c", x.repair(0, 2), 1 | 4);
        due("a, d", x.repair(0, 3), 8);
        due("AXIOM 31", with("a<a;".repeat(31) + "a<b;").repair(0, 1), 1L << 31);
        due("four", with("a<b;a<b;a<b;a<b;").repair(0, 1), 15);
        LightClassifier y = with("a<b;a<c;b<d;c<d;b<c;");
        // REASONS: 0 2, 1 3, 0 3 4: of 0 1, 0 3, 2 3, 1 2 .. the least is 0 1.
        due("of several of two", y.repair(0, name(y, 'd')), 3);
    }

    static void p24_notBelow() {
        says(24, "NONE: a is not below b");
        LightClassifier x = with("a<b;");
        due("not below", x.repair(1, 0), NONE);
        x.turn(0);
        due("no more below", x.repair(0, 1), NONE);
    }

    static void p24_byNone() {
        says(24, "-2: it is so by no AXIOMS, too");
        LightClassifier x = with("a<b;b<a;".repeat(4));
        due("itself", x.repair(0, 0), -2);
        for (int k = 0; k < 8; k++) {
            x.turn(k);
        }
        due("itself, all OFF", x.repair(1, 1), -2);
    }

    static void p24_tooMany() {
        says(24, "-3: there are TOO MANY REASONS.");
        LightClassifier x = with("a<b;".repeat(5) + "b<c;");
        due("five", x.repair(0, 1), -3);
        due("five, of which all have one", x.repair(0, 2), -3);
        x.turn(0);
        due("four", x.repair(0, 1), 2 | 4 | 8 | 16);
        due("four, of which all have one", x.repair(0, 2), 32);
    }

    static void p25_likeness() {
        says(25, "LIKENESS: 0 the upper number, 1 the lower one (of two, VOID or not).");
        LightClassifier x = with("a<c;b<c;v<nothing;w<v;");
        // NAMES: 0 a, 1 c, 2 b, 3 v, 4 w. a: a, c; b: b, c; v, w: all 5.
        int[][] want = {{0, 2, 1, 3}, {0, 1, 1, 2}, {0, 3, 2, 5}, {3, 0, 2, 5}, {3, 4, 1, 1}, {3, 3, 1, 1}, {1, 3, 1, 5}, {0, 0, 1, 1}};
        for (int[] row : want) {
            due("upper of " + row[0] + ", " + row[1], x.likeness(row[0], row[1], 0), row[2]);
            due("lower of " + row[0] + ", " + row[1], x.likeness(row[0], row[1], 1), row[3]);
        }
        LightClassifier y = with("a<a;b<b;");
        due("none, upper", y.likeness(0, 1, 0), 0);
        due("none, lower", y.likeness(0, 1, 1), 1);
    }

    // ---- 26 to 28: MODULES

    static void p26_atom() {
        says(26, "The ATOM of an AXIOM; NONE: it is OFF.");
        LightClassifier x = with("a<b;b<a;c<a;a<b;");
        int[] want = {0, 0, 2, 0};
        for (int k = 0; k < want.length; k++) {
            due("atom(" + k + ")", x.atom(k), want[k]);
        }
        x.turn(0);
        due("OFF", x.atom(0), NONE);
        due("the next one", x.atom(3), 1);
        x.turn(1);
        due("the one left", x.atom(3), 3);
        due("32 of one", with("a<b;".repeat(32)).atom(31), 0);
        LightClassifier y = with("a<top;b<top;nothing<c;");
        due("of no MODULE", y.atom(2), 0);
    }

    static void p27_depends() {
        says(27, "AXIOMS on which one DEPENDS (its ATOM, too, if it is in its own MODULE), as bits; 0: it is OFF.");
        LightClassifier x = with("a<b;b<c;d<top;top<e;");
        due("of 0, with itself", x.depends(0), 1 | 2 | 8);
        due("of 1, with itself", x.depends(1), 2 | 8);
        due("of 2, not in its own MODULE", x.depends(2), 8);
        due("of 3", x.depends(3), 8);
        x.turn(3);
        due("of 2, nothing", x.depends(2), 0);
        due("OFF", x.depends(3), 0);
        due("AXIOM 31", with("a<top;".repeat(31) + "a<b;").depends(31), 1L << 31);
    }

    static void p28_module() {
        says(28, "A MODULE for NAMES, ROLES (bits) of a way (0 to 2), as bits of AXIOMS.");
        LightClassifier x = with("a<b;b<c;d<b;r<<s;");
        due("way 0", x.module(1, 0, 0), 3);
        due("way 1", x.module(4, 0, 1), 7);
        due("way 2", x.module(5, 0, 2), 3);
        due("ROLES, way 0", x.module(0, 1, 0), 8);
        due("ROLES, way 1", x.module(0, 2, 1), 8);
        due("all", x.module(15, 3, 0), 15);
        due("none", x.module(0, 0, 0), 0);
        due("32 AXIOMS", with("a<b;".repeat(32)).module(3, 0, 2), (1L << 32) - 1);
        LightClassifier y = with(NAMES_24 + ROLES_8);
        due("all bits", y.module((1 << 24) - 1, 255, 0), (1 << 16) - 1);
        due("the last bits", y.module(1 << 23, 128, 1), 1 << 11 | 1 << 15);
    }

    static void p28_otherWay() {
        says(28, "IllegalArgumentException: another way");
        LightClassifier x = with("a<b;");
        noOther("module", 3, k -> x.module(0, 0, k));
        due("counted", x.status(1), 6);
    }

    static void p28_otherBits() {
        says(28, "bits of no NAMES, ROLES.");
        LightClassifier x = with("a<b;r<<s;");
        int[] wrong = {4, 5, 1 << 24, LEAST, NONE, 7};
        for (int bits : wrong) {
            for (int way = 0; way < 3; way++) {
                int kept = way;
                wrongArgument("NAMES " + bits, () -> x.module(bits, 0, kept));
                wrongArgument("ROLES " + bits, () -> x.module(0, bits, kept));
            }
        }
        due("the most", x.module(3, 3, 0), 3);
        LightClassifier y = with("");
        wrongArgument("a NAME of none", () -> y.module(1, 0, 0));
        wrongArgument("a ROLE of none", () -> y.module(0, 1, 0));
        wrongArgument("bit 31 of none", () -> y.module(LEAST, 0, 0));
        LightClassifier z = with(NAMES_24 + ROLES_8);
        wrongArgument("a 25th NAME", () -> z.module(1 << 24, 0, 0));
        wrongArgument("a 9th ROLE", () -> z.module(0, 1 << 8, 0));
        wrongArgument("a 32nd NAME", () -> z.module(LEAST, 0, 0));
        wrongArgument("a 32nd ROLE", () -> z.module(0, LEAST, 0));
    }

    // ---- 29 to 31: questions

    static void p29_question() {
        says(29, "The first n bytes of the TAPE (empty then) are CONCEPT \"<\" CONCEPT, of NAMES and ROLES that there are");
        LightClassifier x = with("a<b;b<some r c;");
        feed(x, "a<b&c");
        due("3 of 20 bytes", x.ask(3), 1);
        due("the TAPE is empty", x.told(9), 0);
        feed(x, "a<bc");
        due("a word cut in two", x.ask(3), 1);
        feed(x, "a<<b");
        due("a sign cut in two", x.ask(2), 1 - 10);
        due("its place", x.fault(), 2);
        due("blanks", ask(x, "  a  <  some r  ( c )  "), 1);
        askFault(x, "", 1, 0);
        askFault(x, "   ", 1, 3);
        askFault(x, "a", 1, 1);
        askFault(x, "a<", 1, 2);
        askFault(x, "<b", 1, 0);
        askFault(x, "a=b", 1, 1);
        askFault(x, "a<<b", 1, 1);
        askFault(x, "a*b<<a", 1, 1);
        askFault(x, "a<b;", 1, 3);
        askFault(x, "a<b;c<a", 1, 3);
        askFault(x, "a<b<c", 1, 3);
        askFault(x, "(a<b)", 1, 2);
        askFault(x, "a<b)", 1, 3);
        LightClassifier y = with("a<a;".repeat(32));
        due("beside 32 AXIOMS", ask(y, "a<a"), 1);
        LightClassifier z = with(NAMES_24 + ROLES_8);
        due("beside 24 NAMES, 8 ROLES", ask(z, "w<x&some h x"), 0);
        x.turn(1);
        due("words of an AXIOM that is OFF", ask(x, "some r c<b"), 0);
        due("400 bytes", ask(x, "a<b" + " ".repeat(397)), 1);
    }

    static void p29_otherWord() {
        says(29, "(another WORD: FAULT 6, behind 1 to 4 of the same byte)");
        LightClassifier x = with("a<b;b<some r c;");
        askFault(x, "d<a", 6, 0);
        askFault(x, "a<  d", 6, 4);
        askFault(x, "a<some r d", 6, 9);
        askFault(x, "some s a<b", 6, 5);
        askFault(x, "some a a<b", 6, 5);
        askFault(x, "r<a", 6, 0);
        askFault(x, "aa<a", 6, 0);
        askFault(x, "d<", 6, 0);
        askFault(x, "d<<a", 6, 0);
        askFault(x, "d e", 6, 0);
        askFault(x, "a d", 1, 2);
        askFault(x, "a<b d", 1, 4);
        askFault(x, "a<defghij", 2, 2);
        askFault(x, "some defghij a<b", 2, 5);
        askFault(x, "some top a<b", 1, 5);
        askFault(x, "(((((((d<a", 4, 6);
        askFault(x, "((((((d<a", 6, 6);
        askFault(x, "a<d abcdefg", 6, 2);
        askFault(x, "abcdefg<d", 2, 0);
        due("no word has come of it", x.told(2), 3);
        due("no ROLE has come of it", x.told(3), 1);
        LightClassifier y = with("");
        askFault(y, "a<a", 6, 0);
        due("without WORDS", ask(y, "nothing&top<nothing"), 1);
        LightClassifier z = with(NAMES_24 + ROLES_8);
        askFault(z, "y<a", 6, 0);
        askFault(z, "some i a<a", 6, 5);
    }

    static void p29_asIfOff() {
        says(29, "1 the first is below the second, 0 not, as if it were an AXIOM that is OFF");
        LightClassifier x = with("a<some r b;b<c;b<d;v<nothing;r<<s;");
        due("below", ask(x, "a<some s(c&d)"), 1);
        due("not below", ask(x, "some s(c&d)<a"), 0);
        due("nor is it told", ask(x, "c<a"), 0);
        due("nor is it told, again", ask(x, "c<a"), 0);
        due("an AND of others", ask(x, "c&d<d&c"), 1);
        due("VOID", ask(x, "some s(v&a)<a"), 1);
        due("NOTHING", ask(x, "nothing<a"), 1);
        due("TOP", ask(x, "a<top"), 1);
        due("not TOP", ask(x, "top<a"), 0);
        due("itself", ask(x, "some r some r some s d<some r some r some s d"), 1);
        due("some r of more is below some s of less", ask(x, "some r some r b<some s some s top"), 1);
        due("and not the other way", ask(x, "some s some s top<some r some r b"), 0);
        x.turn(4);
        due("with an AXIOM OFF", ask(x, "a<some s(c&d)"), 0);
    }

    static void p29_faults() {
        says(29, "or the FAULT less 10 (5: at 0).");
        LightClassifier x = with(PARTS_60);
        due("no PARTS more", ask(x, "a&a<a&a&a"), 1);
        askFault(x, "a<top&a", 5, 0);
        askFault(x, "  a<top&a", 5, 0);
        askFault(x, "top&a<a", 5, 0);
        askFault(x, "a<top&a a", 1, 8);
        askFault(x, "top&a", 1, 5);
        askFault(x, "a<top&a&b", 6, 8);
        askFault(x, "a<top&a&abcdefg", 2, 8);
        askFault(x, "a<top&a&(((((((a", 4, 14);
        due("PARTS stay", x.told(4), 60);
        due("behind it", ask(x, "a<a&a"), 1);
        LightClassifier y = with("a<a;");
        due("57 PARTS more", ask(y, "a&".repeat(57) + "a<a"), 1);
        askFault(y, "a&".repeat(58) + "a<a", 5, 0);
        due("57 PARTS again", ask(y, "a<" + "a&".repeat(57) + "a"), 1);
        due("both tell the same", ask(y, "a&".repeat(57) + "a<" + "a&".repeat(57) + "a"), 1);
        askFault(y, "a&".repeat(57) + "a<top&a", 5, 0);
    }

    static void p30_concept() {
        says(30, "The first n bytes of the TAPE (empty then) are a CONCEPT, read as by ask()");
        LightClassifier x = with("a<b;b<some r c;");
        feed(x, "a&b<c");
        due("1 of 20 bytes", x.of(1, 1), 3);
        due("the TAPE is empty", x.told(9), 0);
        due("blanks", of(x, 1, "  some r  ( c )  "), 0);
        String[] faulty = {"", "  ", "a<b", "a;", "a&", "(a", "a)", "d", "some s a", "some", "abcdefg", "(((((((a", "a b", "a d", "a=a", "top nothing"};
        int[] kinds = {1, 1, 1, 1, 1, 1, 1, 6, 6, 1, 2, 4, 1, 1, 1, 1};
        int[] places = {0, 2, 1, 1, 2, 2, 1, 0, 5, 4, 0, 6, 2, 2, 1, 4};
        for (int k = 0; k < faulty.length; k++) {
            for (int what = 0; what < 3; what++) {
                due("of " + faulty[k], of(x, what, faulty[k]), kinds[k] - 10);
                due("fault() of " + faulty[k], x.fault(), places[k]);
                due("TAPE behind " + faulty[k], x.told(9), 0);
            }
        }
        due("words stay", x.told(2), 3);
    }

    static void p30_namesBelow() {
        says(30, "0 the NAMES that are below it");
        LightClassifier x = with("a<some r b;b<c;v<nothing;d=some s c;r<<s;");
        // NAMES: 0 a, 1 b, 2 c, 3 v, 4 d.
        due("some s c", of(x, 0, "some s c"), 1 | 8 | 16);
        due("some s b", of(x, 0, "some s b"), 1 | 8);
        due("top", of(x, 0, "top"), 31);
        due("nothing", of(x, 0, "nothing"), 8);
        due("c", of(x, 0, "c"), 2 | 4 | 8);
        due("a & d", of(x, 0, "a&d"), 1 | 8);
        due("all 24", of(with(NAMES_24), 0, "top"), (1 << 24) - 1);
    }

    static void p30_namesAbove() {
        says(30, "1 those that it is below");
        LightClassifier x = with("a<some r b;b<c;v<nothing;d=some s c;r<<s;top<t;");
        due("some r b", of(x, 1, "some r b"), 16 | 32);
        due("a & c", of(x, 1, "a&c"), 1 | 4 | 16 | 32);
        due("top", of(x, 1, "top"), 32);
        due("nothing: all", of(x, 1, "nothing"), 63);
        due("VOID: all", of(x, 1, "some r some r v"), 63);
        due("itself", of(x, 1, "c"), 4 | 32);
    }

    static void p30_void() {
        says(30, "2 1 it is VOID, 0 not");
        LightClassifier x = with("a&b<nothing;c<b;");
        due("a & c", of(x, 2, "a&c"), 1);
        due("a & c & a", of(x, 2, "a&c&a"), 1);
        due("some r of it", of(with("a&b<nothing;r<<r;"), 2, "some r some r(a&b)"), 1);
        due("a", of(x, 2, "a"), 0);
        due("top", of(x, 2, "top"), 0);
        due("nothing", of(x, 2, "nothing"), 1);
        due("all is", of(with("top<nothing;"), 2, "top"), 1);
    }

    static void p30_faults() {
        says(30, "or the FAULT less 10.");
        LightClassifier x = with("a<a;");
        due("57 PARTS more", of(x, 0, "a&".repeat(57) + "a"), 1);
        due("58 PARTS more", of(x, 0, " " + "a&".repeat(58) + "a"), 5 - 10);
        due("at 0", x.fault(), 0);
        due("58 PARTS more and another FAULT", of(x, 1, "a&".repeat(58) + "b"), 6 - 10);
        due("its place", x.fault(), 116);
        due("PARTS stay", x.told(4), 3);
    }

    static void p31_model() {
        says(31, "Likewise: the PARTS of the MODEL that are in it, as bits (those that there are but for it)");
        LightClassifier x = with("a<some r b;b<c;r<<s;v<nothing;");
        // 2 a, 3 b, 4 some r b, 5 c, 6 v.
        due("TOP", model(x, "top"), 1 | 4 | 8 | 16 | 32);
        due("c", model(x, "c"), 8 | 32);
        due("some s c", model(x, "some s c"), 4 | 16);
        due("PARTS of the question are none", model(x, "some s(c&c)"), 4 | 16);
        due("AND", model(x, "some s top&a"), 4);
        feed(x, "a&b<c");
        due("1 of 20 bytes", x.model(1), 4);
        due("the TAPE is empty", x.told(9), 0);
        due("all 60 but NOTHING", model(with(PARTS_60), "top"), (1L << 60) - 1 - 2);
        due("all 60 but TOP, NOTHING", model(with(PARTS_60), "a"), (1L << 60) - 1 - 3);
        due("all is VOID", model(with("top<nothing;a<a;"), "top"), 0);
        LightClassifier y = with("a<some r b;c<some r d;r*r<<r;b<some r d;");
        // 2 a, 3 b, 4 some r b, 5 c, 6 d, 7 some r d.
        due("by a CHAIN", model(y, "some r d"), 4 | 8 | 16 | 32 | 128);
        due("by two steps", model(y, "some r some r d"), 4 | 16);
    }

    static void p31_faults() {
        says(31, "or the FAULT less 10.");
        LightClassifier x = with("a<a;");
        String[] faulty = {"a<a", "abcdefg", "(((((((a", "b", "", "a&".repeat(58) + "a", " " + "a&".repeat(58) + "a", "a&".repeat(58) + ";"};
        int[] kinds = {1, 2, 4, 6, 1, 5, 5, 1};
        int[] places = {1, 0, 6, 0, 0, 0, 0, 116};
        for (int k = 0; k < faulty.length; k++) {
            due("model of " + faulty[k], model(x, faulty[k]), kinds[k] - 10);
            due("fault() of " + faulty[k], x.fault(), places[k]);
            due("TAPE behind " + faulty[k], x.told(9), 0);
        }
        due("PARTS stay", x.told(4), 3);
    }

    // ---- 32, 33

    static void p32_print() {
        says(32, "From 0 on, of all PARTS: 31 times what there is, and how many PARTS are in its ABOVE, 31 times that, and how many LINKS are from it.");
        due("none told", with("").print(), ((1 * 31L + 0) * 31 + 2) * 31 + 0);
        due("two", with("a<some r b;").print(), printed(1, 0, 2, 0, 3, 1, 2, 0, 2, 1));
        int[] ands = new int[120];
        for (int k = 0; k < 60; k++) {
            ands[2 * k] = k == 0 ? 1 : k == 1 ? 2 : 59;
        }
        due("60 PARTS, wrapped around", with(PARTS_60).print(), printed(ands));
        int[] somes = new int[118];
        for (int k = 0; k < 59; k++) {
            somes[2 * k] = k == 0 ? 1 : k == 58 ? 3 : 2;
            somes[2 * k + 1] = k > 2 ? 1 : 0;
        }
        due("56 LINKS, wrapped around", with("some r ".repeat(56) + "a<a;").print(), printed(somes));
        LightClassifier x = with("a<b;");
        x.turn(0);
        due("OFF", x.print(), printed(1, 0, 2, 0, 2, 0, 2, 0));
    }

    private static long printed(int... numbers) {
        BigInteger all = BigInteger.ZERO;
        for (int number : numbers) {
            all = all.multiply(BigInteger.valueOf(31)).add(BigInteger.valueOf(number));
        }
        return all.longValue();
    }

    static void p33_refused() {
        says(33, "How many calls were refused: 0 NoSuchElementException, 1 IllegalArgumentException, 2 IllegalStateException");
        LightClassifier x = with("v<nothing;");
        for (int k = 1; k <= 40; k++) {
            noSuch("turn", () -> x.turn(9));
            wrongArgument("told", () -> x.told(99));
            wrongState("common", () -> x.common(0, 0));
            for (int what = 0; what < 3; what++) {
                due("status(" + what + ")", x.status(what), k);
            }
        }
        tell(x, "a<b;");
        due("a text takes none back", x.status(0), 40);
        x.turn(0);
        x.undo();
        due("nor does undo()", x.status(1), 40);
        tell(x, "a<");
        ask(x, "@");
        for (int k = 0; k < 21; k++) {
            x.feed(0, 0, 0, 0, 0);
        }
        x.undo();
        due("FAULTS and NONE are no refusals", x.status(0) + x.status(1) + x.status(2), 120);
        LightClassifier y = new LightClassifier();
        due("each object has its own", y.status(0) + y.status(1) + y.status(2), 0);
    }

    static void p33_others() {
        says(33, "NONE for others.");
        LightClassifier x = new LightClassifier();
        int[] others = {-1, 3, LEAST, MOST};
        for (int what : others) {
            due("status(" + what + ")", x.status(what), NONE);
        }
        due("it is not refused", x.status(0) + x.status(1) + x.status(2), 0);
    }
}
