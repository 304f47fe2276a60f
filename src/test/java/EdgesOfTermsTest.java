/** The terms, ==== 1 to ==== 4: a test for each thing said, with the edges that it names; the first line quotes it. */
public final class EdgesOfTermsTest extends Checks {
    // 24 NAMES in 48 bytes, 8 ROLES in 20.
    private static final String NAMES_24 = "a<b;c<d;e<f;g<h;i<j;k<l;m<n;o<p;q<r;s<t;u<v;w<x;";
    private static final String ROLES_8 = "a<<b;c<<d;e<<f;g<<h;";
    // TOP, NOTHING, a and 57 ANDS.
    private static final String PARTS_60 = "a&".repeat(57) + "a<a;";

    public static void main(String[] args) throws Exception {
        runAll(EdgesOfTermsTest.class, "Terms 1", "Terms 2", "Terms 3", "Terms 4");
    }

    // ==== 1: what there is

    static void t1_calls512() {
        says("Terms 1", "An object is used for at most 512 calls after it has been made; what later calls answer is free.");
        LightClassifier x = new LightClassifier();
        feed(x, "a<b;");
        x.text(4);
        for (int k = 3; k <= 511; k++) {
            x.turn(0);
        }
        due("the 512th call", x.axiom(0, 1), 0);
    }

    static void t1_names24() {
        says("Terms 1", "NAMES (24 at most)");
        good(NAMES_24, 12);
        LightClassifier x = with(NAMES_24);
        due("NAMES", x.told(2), 24);
        due("the 24th NAME", x.letter(0, 23, 0), 'x');
        due("its NODE", x.node(23), 23);
        due("its bit", x.nodeOf(22, 3), 1 << 23);
        due("its CHILDREN", x.nodeOf(23, 2), 1 << 22);
        due("all below it", x.nodeOf(23, 4), 1 << 22);
        due("its DEPTH", x.nodeOf(22, 5), 2);
        due("COMMON", x.common(22, 23), 1 << 23);
        good(NAMES_24 + "x<a;", 13);
    }

    static void t1_roles8() {
        says("Terms 1", "ROLES (8 at most)");
        good(ROLES_8, 4);
        LightClassifier x = with(ROLES_8);
        due("ROLES", x.told(3), 8);
        due("the 8th ROLE", x.letter(1, 7, 0), 'h');
        due("its bit", x.under(6), 1 << 6 | 1 << 7);
        good(ROLES_8 + "h<<a;h*h<<h;some h i<i;", 7);
    }

    static void t1_numbered() {
        says("Terms 1", "each numbered as they come in the AXIOMS told");
        LightClassifier x = with("b&a<some s c;r*s<<q;some q d<a;");
        String names = "bacd";
        String roles = "srq";
        for (int k = 0; k < names.length(); k++) {
            due("NAME " + k, x.letter(0, k, 0), names.charAt(k));
        }
        for (int k = 0; k < roles.length(); k++) {
            due("ROLE " + k, x.letter(1, k, 0), roles.charAt(k));
        }
        tell(x, "d<a;");
        due("told anew, from 0 on", x.letter(0, 0, 0), 'd');
        tell(x, "e<f;f<");
        due("a text with a FAULT numbers nothing", x.told(2), 2);
        tell(x, "e<f;");
        due("behind a text with a FAULT", x.letter(0, 0, 0), 'e');
    }

    static void t1_concepts() {
        says("Terms 1", "A CONCEPT: a NAME; TOP; NOTHING; AND of two CONCEPTS; SOME of a ROLE and a CONCEPT.");
        LightClassifier x = with("a<top;a<nothing;a<a&top;a<some r nothing;");
        int[] kinds = {1, 2, 0, 3, 4};
        due("PARTS", x.told(4), kinds.length);
        for (int k = 0; k < kinds.length; k++) {
            due("kind of PART " + k, x.part(k, 0), kinds[k]);
        }
    }

    static void t1_alike() {
        says("Terms 1", "Two are alike, if they are told alike.");
        due("a & b and b & a are two", with("a&b<b&a;").told(4), 6);
        due("(a & b) & c and a & (b & c) are two", with("(a&b)&c<a&(b&c);").told(4), 9);
        due("a & a is none of a", with("a&a<a;").told(4), 4);
        due("some r a, some s a are two", with("some r a<some s a;").told(4), 5);
        due("blanks and brackets tell nothing else", with("a & b<((a)&(b));").told(4), 5);
        LightClassifier x = with("a&b<b&a;");
        due("two that are not alike, by rules", x.below(4, 5), true);
        due("and the other way", x.below(5, 4), true);
    }

    static void t1_axioms32() {
        says("Terms 1", "An AXIOM (at most 32, numbered from 0 on, each ON or OFF)");
        LightClassifier x = with("a<b;".repeat(31) + "c<d;");
        due("AXIOMS", x.told(0), 32);
        due("the last one", x.axiom(31, 2), part(x, 'c'));
        due("the first one", x.axiom(0, 2), part(x, 'a'));
        due("the last one is ON", x.axiom(31, 1), 1);
        due("the last one becomes OFF", x.turn(31), 0);
        due("the last one is OFF", x.axiom(31, 1), 0);
        due("no other is", x.told(1), 31);
    }

    static void t1_below() {
        says("Terms 1", "0 BELOW: a CONCEPT C below a CONCEPT D");
        LightClassifier x = with("a<b;");
        due("kind", x.axiom(0, 0), 0);
        due("C below D", isBelow(x, 'a', 'b'), true);
        due("D below C", isBelow(x, 'b', 'a'), false);
    }

    static void t1_equal() {
        says("Terms 1", "1 EQUAL: C and D (each below the other one)");
        LightClassifier x = with("a=b;");
        due("kind", x.axiom(0, 0), 1);
        due("C below D", isBelow(x, 'a', 'b'), true);
        due("D below C", isBelow(x, 'b', 'a'), true);
        LightClassifier y = with("a=a;".repeat(31) + "a=b;");
        due("the last of 32, C below D", isBelow(y, 'a', 'b'), true);
        due("the last of 32, D below C", isBelow(y, 'b', 'a'), true);
    }

    static void t1_rolesBelow() {
        says("Terms 1", "2 a ROLE r below a ROLE s");
        LightClassifier x = with("r<<s;");
        due("kind", x.axiom(0, 0), 2);
        due("r UNDER s", x.under(0), 3);
        due("s not UNDER r", x.under(1), 2);
    }

    static void t1_chain() {
        says("Terms 1", "3 CHAIN: r, then s, below t");
        LightClassifier x = with("r*s<<t;a<some r b;b<some s c;");
        due("kind", x.axiom(0, 0), 3);
        due("r, then s", x.link(part(x, 'a'), 2, part(x, 'c')), true);
        LightClassifier y = with("s*r<<t;a<some r b;b<some s c;");
        due("s, then r", y.link(part(y, 'a'), 2, part(y, 'c')), false);
    }

    // ==== 1: PARTS

    static void t1_partsOnOrOff() {
        says("Terms 1", "PARTS: all CONCEPTS in AXIOMS (ON or OFF) of kind 0, 1, and those within these");
        LightClassifier x = with("a<some r(b&c);r*s<<t;d=e;");
        due("PARTS", x.told(4), 9);
        for (int k = 0; k < 3; k++) {
            x.turn(k);
        }
        due("PARTS, all OFF", x.told(4), 9);
        due("a PART of an AXIOM that is OFF", x.part(6, 0), 4);
        due("a PART of an AXIOM that is OFF is below itself", x.below(6, 6), true);
        due("no PARTS of ROLES", with("r<<s;r*s<<t;").told(4), 2);
    }

    static void t1_partsOnce() {
        says("Terms 1", "each once, at most 60");
        due("each once", with("a<a;a=a;a&a<a&a;some r a<a&a;").told(4), 5);
        LightClassifier x = with(PARTS_60);
        due("60 PARTS", x.told(4), 60);
        due("PART 59", x.part(59, 0), 3);
        due("PART 59 is below a", x.below(59, 2), true);
        due("a is below PART 59", x.below(2, 59), true);
        due("told again it is none more", tell(x, PARTS_60 + PARTS_60), 2);
    }

    static void t1_partsInOrder() {
        says("Terms 1", "numbered as they come, what is within one ahead of it (of AND the first one, then the second one)");
        LightClassifier x = with("some r(b&a)&some s c<d;");
        // 2 b, 3 a, 4 b & a, 5 some r 4, 6 c, 7 some s 6, 8 5 & 7, 9 d.
        int[][] want = {{0, 0}, {0, 1}, {3, 2}, {4, 0}, {0, 2}, {4, 1}, {3, 5}, {0, 3}};
        int[] second = {NONE, NONE, 3, 4, NONE, 6, 7, NONE};
        for (int k = 0; k < want.length; k++) {
            due("part(" + (k + 2) + ", 0)", x.part(k + 2, 0), want[k][0]);
            due("part(" + (k + 2) + ", 1)", x.part(k + 2, 1), want[k][1]);
            due("part(" + (k + 2) + ", 2)", x.part(k + 2, 2), second[k]);
        }
    }

    static void t1_partsTopNothing() {
        says("Terms 1", "TOP is 0, NOTHING 1 (whether told or not), then AXIOM by AXIOM, C, then D.");
        LightClassifier x = with("a<b;nothing<top;c<a;");
        due("TOP", x.part(0, 0), 1);
        due("NOTHING", x.part(1, 0), 2);
        due("NOTHING told", x.axiom(1, 2), 1);
        due("TOP told", x.axiom(1, 3), 0);
        due("C of AXIOM 0", x.axiom(0, 2), 2);
        due("D of AXIOM 0", x.axiom(0, 3), 3);
        due("C of AXIOM 2", x.axiom(2, 2), 4);
        due("D of AXIOM 2", x.axiom(2, 3), 2);
        due("not told, too", with("").told(4), 2);
    }

    // ==== 1: TEXTS

    static void t1_text400() {
        says("Terms 1", "A TEXT has up to 400 bytes");
        good(" ".repeat(396) + "a<b;", 1);
        good("a<b;" + " ".repeat(396), 1);
        good(" ".repeat(400), 0);
        fault(" ".repeat(397) + "a<b", 1, 400);
        fault(" ".repeat(399) + ";", 1, 399);
        good("a<some r(b&c);".repeat(28), 28);
        good("a<" + " ".repeat(190) + "(".repeat(6) + " ".repeat(190) + "b" + ")".repeat(6) + "  ; ", 1);
    }

    static void t1_textGrammar() {
        says("Terms 1", "{ AXIOM \";\" }: CONCEPT ( \"<\" | \"=\" ) CONCEPT | ROLE [ \"*\" ROLE ] \"<<\" ROLE.");
        good("", 0);
        good("a<b;", 1);
        good("a=b;", 1);
        good("r<<s;", 1);
        good("r*s<<t;", 1);
        good("a<b;a=b;r<<s;r*s<<t;", 4);
        fault("a<b", 1, 3);
        fault("a<b;;", 1, 4);
        fault(";", 1, 0);
        fault("a;", 1, 1);
        fault("a<b<c;", 1, 3);
        fault("a=b=c;", 1, 3);
        fault("r<<s<<t;", 1, 4);
        fault("r*s*t<<u;", 1, 3);
        fault("r*s;", 1, 3);
        fault("r*s=t;", 1, 3);
        everySignAtEveryPlace();
    }

    /** Each beginning of a text with each word and sign behind it: it can stand there, or it is the FAULT. */
    private static void everySignAtEveryPlace() {
        String[] all = {"a", "top", "nothing", "some", "(", ")", "&", "<", "=", "*", "<<", ";", "@"};
        String atoms = " a top nothing some ( ";
        String[][] places = {
            {"", atoms}, {"a", " & < = * << "}, {"top", " & < = "}, {"nothing", " & < = "}, {"some", " a "}, {"some r", atoms}, {"(", atoms},
            {"(a", " & ) "}, {"(a)", " & < = "}, {"(some r a", " & ) "}, {"((a)", " & ) "}, {"a&", atoms}, {"a&a", " & < = "},
            {"some r a", " & < = "}, {"some r (a", " & ) "}, {"a<", atoms}, {"a=", atoms}, {"a<a", " & ; "}, {"a=a", " & ; "},
            {"a<some r", atoms}, {"a<some", " a "}, {"a<(a", " & ) "}, {"a<(a)", " & ; "}, {"a<a&", atoms}, {"a*", " a "}, {"a*a", " << "},
            {"a*a<<", " a "}, {"a*a<<a", " ; "}, {"a<<", " a "}, {"a<<a", " ; "}, {"a<a;", atoms}, {"a<<a;", atoms}, {"a<a; a", " & < = * << "}};
        for (String[] place : places) {
            for (String sign : all) {
                String s = place[0] + " " + sign;
                boolean fits = place[1].contains(" " + sign + " ");
                if (fits && sign.equals(";")) {
                    good(s, 1);
                } else {
                    LightClassifier x = new LightClassifier();
                    due("text of " + s, tell(x, s), 1 - 10);
                    due("fault() of " + s, x.fault(), fits ? s.length() : place[0].length() + 1);
                }
            }
        }
    }

    static void t1_textFromTheLeft() {
        says("Terms 1", "CONCEPT: ATOM { \"&\" ATOM } (from the left: a & b & c is AND of AND of a, b and c).");
        LightClassifier x = with("a & b & c<d;");
        due("AND of a, b", x.part(4, 1), 2);
        due("AND of a, b", x.part(4, 2), 3);
        due("AND of that", x.part(6, 1), 4);
        due("AND of that and c", x.part(6, 2), 5);
        LightClassifier y = with("a&(b&c)<d;");
        due("with brackets", y.part(y.axiom(0, 2), 1), part(y, 'a'));
        LightClassifier z = with("d<a&b&c&e;");
        int four = z.axiom(0, 3);
        due("the last one", z.part(four, 2), part(z, 'e'));
        due("the one ahead of it", z.part(z.part(four, 1), 2), part(z, 'c'));
    }

    static void t1_textAtoms() {
        says("Terms 1", "ATOM: WORD | \"top\" | \"nothing\" | \"some\" ROLE ATOM | \"(\" CONCEPT \")\".");
        LightClassifier x = with("some r a&b<some r some s(a&b);some r (top)<(nothing);");
        int c = x.axiom(0, 2);
        due("some takes one ATOM", x.part(c, 0), 3);
        due("and the rest is beside it", x.part(c, 2), part(x, 'b'));
        int d = x.axiom(0, 3);
        due("some r", x.part(d, 0), 4);
        due("of some s", x.part(x.part(d, 2), 0), 4);
        due("of an AND", x.part(x.part(x.part(d, 2), 2), 0), 3);
        due("some r top", x.part(x.axiom(1, 2), 2), 0);
        due("(nothing)", x.axiom(1, 3), 1);
        good("some r(a)<b;", 1);
        fault("some(r)a<b;", 1, 4);
        fault("()<b;", 1, 1);
        fault("some r<b;", 1, 6);
    }

    static void t1_word1to6() {
        says("Terms 1", "A WORD (a NAME, a ROLE): 1 to 6 small letters, none of top, nothing, some.");
        good("a<abcdef;zzzzzz<<azazaz;", 2);
        fault("a<abcdefg;", 2, 2);
        fault("zzzzzzz<<a;", 2, 0);
        fault("a<A;", 1, 2);
        fault("a<bC;", 1, 3);
        fault("a<b2;", 1, 3);
        fault("a<b_;", 1, 3);
        fault("a<`;", 1, 2);
        fault("a<{;", 1, 2);
        fault("top<<a;", 1, 3);
        fault("a<<top;", 1, 3);
        fault("a<<some;", 1, 3);
        fault("a*nothing<<b;", 1, 2);
        fault("some top a<b;", 1, 5);
        fault("some nothing a<b;", 1, 5);
        fault("some some a<b;", 1, 5);
        good("to<topt;ttop<noth;nothin<som;somes<ssome;", 4);
    }

    static void t1_wordsLong() {
        says("Terms 1", "Words are as many small letters as stand there");
        LightClassifier x = with("topa<somer;");
        due("topa is one NAME", x.told(2), 2);
        due("its last letter", x.letter(0, 0, 3), 'a');
        fault("somer a<b;", 1, 6);
        fault("some ra<b;", 1, 7);
        fault("nothings<b;", 2, 0);
        good("some r a<b;some r(a)<b;", 2);
    }

    static void t1_signLessLess() {
        says("Terms 1", "the sign << is one (as long as it goes)");
        good("r<<s;", 1);
        fault("r< <s;", 1, 3);
        fault("r<<<s;", 1, 3);
        fault("r<<<<s;", 1, 3);
        fault("a<b<<c;", 1, 3);
        fault("(a)<<b;", 1, 3);
        fault("a<<(b);", 1, 3);
        fault("r* s < < t;", 1, 5);
    }

    static void t1_blanks() {
        says("Terms 1", "blanks (32) may stand ahead of all words and signs, and at the end.");
        good("  some   r  (  a  &  top  )  <  nothing  ;   r  *  s  <<  t  ;  r  <<  s  ;  a  =  b  ;  ", 4);
        good("a<b;   ", 1);
        good(" ", 0);
        int[] others = {0, 9, 10, 13, 31, 33, 127, 128, 160, 255};
        for (int other : others) {
            fault("a" + (char) other + "<b;", 1, 1);
            fault((char) other + "a<b;", 1, 0);
            fault("a<b;" + (char) other, 1, 4);
            fault("a<b" + (char) other + ";", 1, 3);
        }
        fault("a b<c;", 1, 2);
        fault("a<b c;", 1, 4);
    }

    static void t1_axiomOfRoles() {
        says("Terms 1", "An AXIOM that begins with a WORD behind which is \"*\" or \"<<\" is one of ROLES.");
        LightClassifier x = with("a<<b;c  *  d  <<  e;a < b;");
        due("kind of a<<b", x.axiom(0, 0), 2);
        due("kind of c * d << e", x.axiom(1, 0), 3);
        due("kind of a < b", x.axiom(2, 0), 0);
        due("ROLES", x.told(3), 5);
        due("NAMES", x.told(2), 2);
        fault("a*b<c;", 1, 3);
        fault("a<<top;", 1, 3);
        fault("a<<b&c;", 1, 4);
        fault("top*r<<s;", 1, 3);
        fault("some r a<<b;", 1, 8);
        fault(NAMES_24 + "y*z<b;", 1, 51);
        fault(ROLES_8 + "y<b;z<<", 3, 24);
    }

    static void t1_allLimitsAtOnce() {
        says("Terms 1", "at most 60");
        String ands = NAMES_24.replace('<', '&').replace(';', '&');
        LightClassifier x = with(ROLES_8 + ands.substring(0, 47) + "<a;" + "some h ".repeat(11) + "a<a;" + "x<x;".repeat(26));
        int[] want = {32, 32, 24, 8, 60};
        for (int k = 0; k < want.length; k++) {
            due("told(" + k + ")", x.told(k), want[k]);
        }
        due("LINKS", x.told(6), 11);
        due("the last LINK", x.link(59, 7, 58), true);
        due("the last PART", x.below(59, part(x, 'a')), true);
        due("why", x.why(59, 2, 0), 1);
        due("why not", x.why(2, 59, 0), NONE);
        due("needed", x.needed(0, 1), 0);
        due("REASONS", x.reason(0, 0, NONE), 1);
        due("MODULE", x.module((1 << 24) - 1, 255, 2), (1L << 32) - 1);
        due("ask", ask(x, "x<a&b"), 0);
        due("MODEL of the last PART", model(x, "some h ".repeat(11) + "a"), 1L << 59);
    }

    static void t1_namesAndRolesApart() {
        says("Terms 1", "NAMES and ROLES have nothing to do with each other.");
        LightClassifier x = with("b<a;a<<c;some b b<a;");
        due("NAMES", x.told(2), 2);
        due("ROLES", x.told(3), 3);
        due("NAME 0", x.letter(0, 0, 0), 'b');
        due("ROLE 0", x.letter(1, 0, 0), 'a');
        due("ROLE 2", x.letter(1, 2, 0), 'b');
        due("a ROLE below brings no NAME below", isBelow(x, 'a', 'b'), false);
        due("a NAME below brings no ROLE UNDER", x.under(2), 4);
        good(NAMES_24 + "y<<z;", 13);
        good(ROLES_8 + "i<j;", 5);
        askFault(x, "c<a", 6, 0);
        askFault(x, "some d a<a", 6, 5);
    }

    // ==== 1: FAULTS

    static void t1_faultLeastByte() {
        says("Terms 1", "FAULTS; of several the one whose first byte is least");
        fault("a<abcdefg;;", 2, 2);
        fault("a<;abcdefg", 1, 2);
        fault("(((((((a<abcdefg", 4, 6);
        fault("abcdefg<(((((((a", 2, 0);
        fault(NAMES_24 + "a<y abcdefg", 3, 50);
        fault("a&".repeat(58) + "a<a;a<;", 5, 0);
        fault("a<;" + "a&".repeat(58) + "a<a;", 1, 2);
        fault("a<b;".repeat(32) + "a<abcdefg", 3, 128);
    }

    static void t1_faultFirstInList() {
        says("Terms 1", "of one byte the first in this list");
        fault("a abcdefg", 1, 2);
        fault("a<b abcdefg;", 1, 4);
        fault("((((((a(", 1, 7);
        fault(NAMES_24 + "a<bcdefgh;", 2, 50);
        fault(NAMES_24 + "a b", 1, 50);
        fault(NAMES_24 + "a y", 1, 50);
        fault(ROLES_8 + "ijklmno<<a;", 2, 20);
        fault(ROLES_8 + "a<<b i", 1, 25);
        fault("a<b;".repeat(32) + "abcdefg<b;", 2, 128);
        fault("a<b;".repeat(32) + ")", 1, 128);
        fault(PARTS_60 + "b<abcdefg;", 2, 120);
    }

    static void t1_fault1() {
        says("Terms 1", "1 what can't stand there (a word, a sign, by its first byte; at the length, if the text ends too early)");
        fault("a top<b;", 1, 2);
        fault("a   nothing<b;", 1, 4);
        fault("a<b  <<c;", 1, 5);
        fault("a<b;  )", 1, 6);
        fault("a", 1, 1);
        fault("a   ", 1, 4);
        fault("a<b;a<b", 1, 7);
        fault("a<b;(", 1, 5);
        fault("some", 1, 4);
        fault("some ", 1, 5);
        fault("r*", 1, 2);
        fault("a<(b;", 1, 4);
        LightClassifier x = new LightClassifier();
        feed(x, "a<b;c<d;");
        due("the text ends where it is told to", x.text(7), 1 - 10);
        due("at the length", x.fault(), 7);
        feed(x, "a<<b;");
        due("what is behind the end does not count", x.text(2), 1 - 10);
        due("at the length, a sign cut in two", x.fault(), 2);
        feed(x, "a<bcd;");
        due("a word cut in two", x.text(4), 1 - 10);
        due("at the length, a word cut in two", x.fault(), 4);
    }

    static void t1_fault2() {
        says("Terms 1", "2 a WORD of more than 6 letters");
        fault("abcdefg<b;", 2, 0);
        fault("a<b&abcdefgh;", 2, 4);
        fault("some abcdefg a<b;", 2, 5);
        fault("some r  abcdefg<b;", 2, 8);
        fault("abcdefg<<r;", 2, 0);
        fault("r*abcdefg<<t;", 2, 2);
        fault("r*s<<abcdefg;", 2, 5);
        fault("r<<abcdefg;", 2, 3);
        fault("nothinga<b;", 2, 0);
        fault("anothing<b;", 2, 0);
        fault("a<" + "z".repeat(398), 2, 2);
        fault("abcdefg", 2, 0);
        good("nothing<b;", 1);
    }

    static void t1_fault3Axiom() {
        says("Terms 1", "3 a 33rd AXIOM (by its first byte, if one can begin so)");
        String full = "a<b;".repeat(32);
        good(full + "  ", 32);
        String[] begins = {"a", "top", "nothing", "some", "(", "a<b;", "a<<b;", "zz"};
        for (String begin : begins) {
            fault(full + "  " + begin, 3, 130);
        }
        String[] others = {")", "&", "<", "=", "*", "<<", ";", "@", "A"};
        for (String other : others) {
            fault(full + "  " + other, 1, 130);
        }
        fault("r<<s;".repeat(32) + "r<<s;", 3, 160);
        fault("a=b;".repeat(31) + "r<<s;r*s<<t;", 3, 129);
    }

    static void t1_fault3Name() {
        says("Terms 1", "a 25th NAME");
        fault(NAMES_24 + "y<a;", 3, 48);
        fault(NAMES_24 + "a<  y;", 3, 52);
        fault(NAMES_24 + "a<b&some r(y);", 3, 59);
        fault(NAMES_24 + "y", 3, 48);
        good(NAMES_24 + "a<<y;", 13);
    }

    static void t1_fault3Role() {
        says("Terms 1", "a 9th ROLE");
        fault(ROLES_8 + "i<<a;", 3, 20);
        fault(ROLES_8 + "a<<i;", 3, 23);
        fault(ROLES_8 + "a*i<<a;", 3, 22);
        fault(ROLES_8 + "a*a<<i;", 3, 25);
        fault(ROLES_8 + "some i a<b;", 3, 25);
        fault(ROLES_8 + "some", 1, 24);
        good(ROLES_8 + "i<i;", 5);
    }

    static void t1_fault4() {
        says("Terms 1", "4 a \"(\" within six others");
        good("((((((a))))))<((((((b))))));", 1);
        fault("(((((((a)))))))<b;", 4, 6);
        fault("a<(((((( (b;", 4, 9);
        fault("a<(((((((", 4, 8);
        good("(a)&(b)&(c)&(a)&(b)&(c)&(a)&(b)<a;", 1);
        good("((((((a)&(b)))))&(c))<b;", 1);
        fault("((((((a)&(b)&((c)))))))<b;", 4, 14);
        fault("some r(some r(some r(some r(some r(some r(some r(a)))))))<b;", 4, 48);
        good("some r(some r(some r(some r(some r(some r a)))))<b;", 1);
    }

    static void t1_fault5() {
        says("Terms 1", "5 a 61st PART (by the first byte of the AXIOM in which it would come, behind all others of that AXIOM)");
        String many = "a&".repeat(58) + "a<a";
        good(PARTS_60, 1);
        fault(many + ";", 5, 0);
        fault("  " + many + ";", 5, 2);
        fault("r<<s;  " + many + ";", 5, 7);
        fault(PARTS_60 + " b<a;", 5, 119);
        fault(PARTS_60 + "a<some r a;", 5, 118);
        good(PARTS_60 + "a<a&a;r<<s;top=nothing;", 4);
        fault("a<" + "a&".repeat(58) + "a;", 5, 0);
        fault("some r ".repeat(56) + "a<b&b;", 5, 0);
        good("some r ".repeat(56) + "a<b;", 1);
        fault(many + "&;", 1, 120);
        fault(many + "&abcdefg;", 2, 120);
        fault(many + "&(((((((a;", 4, 126);
        fault(PARTS_60 + "b<c&some r(((((((a;", 4, 134);
        fault(many, 1, 119);
        fault(many + ";;", 5, 0);
        fault(many + ";a<abcdefg;", 5, 0);
        fault(PARTS_60 + NAMES_24.substring(4) + "a<y;", 5, 118);
    }

    // ==== 2: rules and rounds

    static void t2_byWhatIsOn() {
        says("Terms 2", "By the AXIOMS that are ON.");
        LightClassifier x = with("a<b;r<<s;r*r<<t;c=d;");
        for (int k = 0; k < 4; k++) {
            x.turn(k);
        }
        due("below", isBelow(x, 'a', 'b'), false);
        due("equal", isBelow(x, 'd', 'c'), false);
        due("under", x.under(0), 1);
        due("ROUNDS", x.told(5), 0);
        x.undo();
        due("equal again", isBelow(x, 'd', 'c'), true);
    }

    static void t2_under() {
        says("Terms 2", "ROLE r is UNDER s, if it is s, or there are AXIOMS of kind 2 from r on to s.");
        LightClassifier x = with("g<<h;f<<g;e<<f;d<<e;c<<d;b<<c;a<<b;");
        // The ROLES: 0 g, 1 h, 2 f, 3 e, 4 d, 5 c, 6 b, 7 a.
        due("itself", x.under(1), 2);
        due("seven steps", x.under(7), 255);
        due("one step", x.under(0), 3);
        x.turn(3);
        due("with a step OFF", x.under(7), 128 | 64 | 32 | 16);
        LightClassifier y = with("r<<s;s<<t;t<<r;u*r<<s;");
        due("round and back", y.under(1), 7);
        due("a CHAIN is no such AXIOM", y.under(3), 8);
    }

    static void t2_round0() {
        says("Terms 2", "ABOVE(X) of a PART X: PARTS; LINKS: X, a ROLE, a PART Y. ROUND 0: X and TOP are in ABOVE(X), nothing else.");
        LightClassifier x = with("a<b;");
        due("X", x.when(2, 2), 0);
        due("TOP", x.when(2, 0), 0);
        due("nothing else", x.when(2, 3), 1);
        due("TOP in TOP", x.when(0, 0), 0);
        due("NOTHING in NOTHING", x.when(1, 1), 0);
        x.turn(0);
        due("two each, of TOP one", x.told(11), 7);
        LightClassifier y = with("some r a<b;");
        due("a SOME has no LINK in ROUND 0, so it is ROUND 1 that brings something", y.told(5), 1);
    }

    static void t2_roundOfWhatWas() {
        says("Terms 2", "ROUND k and 1: all of ROUND k, and what one of these brings by ROUND k");
        LightClassifier x = with("a<b;b<c;c<d;d<e;e<a;");
        for (int k = 0; k < 5; k++) {
            due("one step a ROUND", whenIs(x, 'a', "abcde".charAt(k)), k);
        }
        due("from the middle on", whenIs(x, 'c', 'b'), 4);
        // What an X of a lesser number got in the same ROUND does not count yet.
        LightClassifier y = with("b<c;some r c<d;a<some r b;");
        due("the SOME of a, in ROUND 1; its LINK, in 2", y.when(part(y, 'a'), y.axiom(2, 3)), 1);
        due("some r c, in ROUND 3", y.when(part(y, 'a'), y.axiom(1, 2)), 3);
    }

    static void t2_ruleAxiom() {
        says("Terms 2", "C is in ABOVE(X), C is below D by an AXIOM: D.");
        LightClassifier x = with("a<b;c=d;top<e;");
        due("a", whenIs(x, 'a', 'b'), 1);
        due("c", whenIs(x, 'c', 'd'), 1);
        due("d", whenIs(x, 'd', 'c'), 1);
        due("TOP is in all ABOVE", whenIs(x, 'a', 'e'), 1);
        due("of TOP, too", x.when(0, part(x, 'e')), 1);
        due("of NOTHING, too", x.when(1, part(x, 'e')), 1);
    }

    static void t2_ruleOutOfAnd() {
        says("Terms 2", "AND of D and E is in ABOVE(X): D, E.");
        LightClassifier x = with("a<b&c;");
        due("D", whenIs(x, 'a', 'b'), 2);
        due("E", whenIs(x, 'a', 'c'), 2);
        due("of the AND itself", x.when(x.axiom(0, 3), part(x, 'c')), 1);
        due("not the other way", x.below(part(x, 'b'), x.axiom(0, 3)), false);
    }

    static void t2_ruleAnd() {
        says("Terms 2", "D and E are in ABOVE(X), AND of D and E is a PART: that.");
        LightClassifier x = with("a<b;a<c;b&c<d;b&b<e;top&a<f;");
        due("both", x.when(part(x, 'a'), x.axiom(2, 2)), 2);
        due("by it", whenIs(x, 'a', 'd'), 3);
        LightClassifier v = with("a<b;a<c;b&c<d;c&b<e;d&e<f;");
        due("two in one ROUND", whenIs(v, 'a', 'd'), 3);
        due("two in one ROUND", whenIs(v, 'a', 'e'), 3);
        due("D and E are one", x.when(part(x, 'b'), x.axiom(3, 2)), 1);
        due("D is TOP", x.when(part(x, 'a'), x.axiom(4, 2)), 1);
        due("one alone", x.below(part(x, 'b'), x.axiom(2, 2)), false);
        LightClassifier y = with("a<b;a<c;c&b<d;");
        due("the other way round", whenIs(y, 'a', 'd'), 3);
    }

    static void t2_ruleLink() {
        says("Terms 2", "SOME r D is in ABOVE(X): the LINK X r D.");
        LightClassifier x = with("a<some r b;");
        due("of a", x.link(part(x, 'a'), 0, part(x, 'b')), true);
        due("of the SOME", x.link(x.axiom(0, 3), 0, part(x, 'b')), true);
        due("no other", x.told(6), 2);
        due("ROUNDS, the last of which brings a LINK alone", x.told(5), 2);
        due("a LINK to TOP", with("a<some r top;").link(2, 0, 0), true);
        due("a LINK to itself", with("a<some r a;").link(2, 0, 2), true);
        due("a LINK to NOTHING", with("a<some r nothing;").link(2, 0, 1), true);
        LightClassifier y = with("a<some r b;a<c;c<some r d;");
        due("of one ROLE, in an earlier ROUND", y.link(part(y, 'a'), 0, part(y, 'b')), true);
        due("of one ROLE, in a later ROUND", y.link(part(y, 'a'), 0, part(y, 'd')), true);
    }

    static void t2_ruleSome() {
        says("Terms 2", "There is a LINK X r Y, E is in ABOVE(Y), r is UNDER s, SOME s E is a PART: that, in ABOVE(X).");
        LightClassifier x = with("a<some r b;b<c;some s c<d;r<<s;");
        int a = part(x, 'a');
        due("some s c", x.when(a, x.axiom(2, 2)), 3);
        due("its LINK", x.link(a, 1, part(x, 'c')), true);
        due("by ROLES alone no LINK", x.link(a, 1, part(x, 'b')), false);
        due("ROUNDS", x.told(5), 4);
        x.turn(3);
        due("r is not UNDER s", x.below(a, x.axiom(2, 2)), false);
        LightClassifier y = with("a<some r b;some r top<d;some s b<e;s<<r;");
        due("E is TOP", isBelow(y, 'a', 'd'), true);
        LightClassifier v = with("a<some r top;top<b;some r b<c;");
        due("Y is TOP", isBelow(v, 'a', 'c'), true);
        due("Y is TOP, asked", ask(v, "a<c"), 1);
        due("Y is TOP, by all three", v.needed(0, name(v, 'c')), 7);
        due("s UNDER r is the wrong way", isBelow(y, 'a', 'e'), false);
        LightClassifier z = with("a<some r b;some s b<c;some t b<d;r<<s;r<<t;");
        due("two in one ROUND", whenIs(z, 'a', 'c'), 4);
        due("two in one ROUND", whenIs(z, 'a', 'd'), 4);
        // E comes into ABOVE(b) only behind another LINK of a.
        LightClassifier w = with("a<some r b;a<p;p<some r c;b<u;u<v;v<w;some r w<d;");
        due("by an earlier LINK", isBelow(w, 'a', 'd'), true);
    }

    static void t2_ruleChain() {
        says("Terms 2", "LINKS X r Y, Y s Z, r UNDER r', s UNDER s', CHAIN r', s' below t: the LINK X t Z.");
        String some = "a<some r b;b<some s c;";
        // ROLES: 0 r, 1 s, 2 t or u, 3 v, 4 t.
        LightClassifier x = with(some + "r*s<<t;");
        due("X t Z", x.link(2, 2, part(x, 'c')), true);
        due("the LINKS", x.told(6), 6);
        due("ROUNDS", x.told(5), 3);
        LightClassifier y = with(some + "r<<u;s<<v;u*v<<t;");
        due("by what they are UNDER", y.link(2, 4, part(y, 'c')), true);
        y.turn(2);
        due("r is not UNDER u", y.link(2, 4, part(y, 'c')), false);
        y.undo();
        y.turn(3);
        due("s is not UNDER v", y.link(2, 4, part(y, 'c')), false);
        LightClassifier z = with(some + "r*s<<t;t<<w;");
        due("what t is UNDER has no LINK", z.link(2, 3, part(z, 'c')), false);
        LightClassifier w = with("a<some r b;b<some r c;c<some r d;d<some r e;r*r<<r;");
        due("a CHAIN of one ROLE, four steps", w.link(part(w, 'a'), 0, part(w, 'e')), true);
        due("not back", w.link(part(w, 'e'), 0, part(w, 'a')), false);
        LightClassifier v = with("a<some r b;a<some r c;b<some s d;c<some s e;r*s<<t;");
        due("by the first Y", v.link(part(v, 'a'), 2, part(v, 'd')), true);
        due("by the second Y", v.link(part(v, 'a'), 2, part(v, 'e')), true);
        LightClassifier u = with("a<some r b;b<some s d;a<some q c;c<some s e;r*s<<t;q*s<<t;");
        due("by the first CHAIN", u.link(part(u, 'a'), 3, part(u, 'd')), true);
        due("by the second CHAIN", u.link(part(u, 'a'), 3, part(u, 'e')), true);
        due("both in one ROUND", u.told(5), 3);
    }

    static void t2_ruleNothing() {
        says("Terms 2", "A LINK X r Y, NOTHING is in ABOVE(Y): NOTHING in ABOVE(X).");
        LightClassifier x = with("b<nothing;a<some r b;c<some s a;");
        due("of a", x.when(part(x, 'a'), 1), 3);
        due("of c", x.when(part(x, 'c'), 1), 4);
        due("a LINK to NOTHING itself", with("a<some r nothing;").when(2, 1), 3);
        LightClassifier y = with("b<nothing;some r b<c;a<c;");
        due("no LINK, no NOTHING", y.below(part(y, 'a'), 1), false);
        LightClassifier z = with("a<some r v;v<nothing;a<p;p<q;q<w;w<z;");
        due("in one ROUND with others", z.when(2, 1), 3);
        due("the others come, too", z.why(2, part(z, 'w'), 0), 1);
        due("and what follows", whenIs(z, 'a', 'z'), 4);
        LightClassifier w = with("a<some r b;a<p;p<some r c;b<u;u<v;v<w;w<nothing;");
        due("by an earlier LINK", w.when(2, 1), 5);
    }

    static void t2_rounds() {
        says("Terms 2", "ROUNDS: the least k so that ROUND k and 1 brings nothing more; ABOVE, LINKS are those of it.");
        due("no AXIOMS", with("").told(5), 0);
        due("nothing is brought", with("a<a;").told(5), 0);
        due("TOP is there already", with("a<top;").told(5), 0);
        due("one ROUND", with("a<b;").told(5), 1);
        due("ROLES alone", with("r<<s;").told(5), 0);
        due("23 steps", with("a<b;b<c;c<d;d<e;e<f;f<g;g<h;h<i;i<j;j<k;k<l;l<m;m<n;n<o;o<p;p<q;q<r;r<s;s<t;t<u;u<v;v<w;w<x;").told(5), 23);
        due("57 steps out of ANDS", with("a&".repeat(57) + "a<a;").told(5), 57);
    }

    static void t2_below() {
        says("Terms 2", "X is below Y: Y or NOTHING is in ABOVE(X).");
        LightClassifier x = with("a<nothing;b<c;");
        due("Y", isBelow(x, 'b', 'c'), true);
        due("NOTHING", isBelow(x, 'a', 'c'), true);
        due("neither", isBelow(x, 'c', 'b'), false);
        due("of NOTHING alone it is not in ABOVE", x.why(part(x, 'a'), part(x, 'c'), 0), NONE);
    }

    static void t2_void() {
        says("Terms 2", "X is VOID: NOTHING is in ABOVE(X).");
        LightClassifier x = with("a<b;b<nothing;c<c;");
        due("VOID NAMES", x.nothing(), 3);
        due("of a NAME that is in no AXIOM that matters", x.nothing() >>> 2, 0);
        due("NOTHING is VOID", of(x, 2, "nothing"), 1);
        due("TOP is not", of(x, 2, "top"), 0);
    }

    static void t2_when() {
        says("Terms 2", "WHEN: the least k so that Y is in ABOVE(X) of ROUND k; if it never is, but NOTHING is, that of NOTHING.");
        LightClassifier x = with("a<nothing;a<b;b<c;c<d;e<e;nothing<f;");
        due("NOTHING came first, but Y came", whenIs(x, 'a', 'd'), 3);
        due("Y never came", whenIs(x, 'a', 'e'), 1);
        due("by NOTHING, as a rule brings it", whenIs(x, 'a', 'f'), 2);
        due("of NOTHING itself", x.when(1, part(x, 'e')), 0);
        due("of NOTHING, by a rule", x.when(1, part(x, 'f')), 1);
        due("neither", whenIs(x, 'e', 'a'), NONE);
    }

    // ==== 2: the hierarchy

    static void t2_nodes() {
        says("Terms 2", "HIERARCHY: NAMES that are below each other are one NODE");
        LightClassifier x = with("a<b;b<c;c<a;d<a;e=e&e;");
        due("a, b, c", x.nodeOf(0, 0), 7);
        due("d", x.nodeOf(1, 0), 8);
        due("e", x.nodeOf(2, 0), 16);
        due("NODES", x.told(7), 3);
        due("below one way is two", with("a<b;").told(7), 2);
    }

    static void t2_nodesNumbered() {
        says("Terms 2", "NODES are numbered by their least NAMES");
        LightClassifier x = with("v<nothing;c<b;a<c;b<a;top<t;e<d;d<e;f<f;");
        // NAMES: 0 v, 1 c, 2 b, 3 a, 4 t, 5 e, 6 d, 7 f.
        int[] want = {NONE, 0, 0, 0, -2, 1, 1, 2};
        for (int k = 0; k < want.length; k++) {
            due("node(" + k + ")", x.node(k), want[k]);
        }
    }

    static void t2_nodesVoid() {
        says("Terms 2", "VOID ones are in no NODE");
        LightClassifier x = with("a<nothing;b<nothing;c<c;");
        due("a", x.node(0), NONE);
        due("b", x.node(1), NONE);
        due("the one NODE", x.told(7), 1);
        due("its NAMES", x.nodeOf(0, 0), 4);
        due("VOID ones are below it, but no NODES", x.nodeOf(0, 4), 0);
        LightClassifier y = with("top<nothing;a<b;");
        due("all is VOID", y.told(7), 0);
        due("in no NODE, not in TOP either", y.node(0), NONE);
    }

    static void t2_nodesTop() {
        says("Terms 2", "those that TOP is below are in the node TOP, which is told by -2, and in no other one");
        LightClassifier x = with("top<a;b=a;c<b;");
        due("a", x.node(0), -2);
        due("b", x.node(1), -2);
        due("c", x.node(2), 0);
        due("NODES", x.told(7), 1);
        due("c is a CHILD of TOP alone", x.nodeOf(0, 1), 0);
        due("NODES that c is below", x.nodeOf(0, 3), 0);
        due("NAMES of the NODE", x.nodeOf(0, 0), 4);
    }

    static void t2_child() {
        says("Terms 2", "A NODE is a CHILD of another one (or of TOP), if it is below it, and no other NODE (not TOP) is between");
        LightClassifier x = with("a<b;b<c;a<c;top<t;");
        due("a of b alone", x.nodeOf(0, 1), 2);
        due("b of c", x.nodeOf(1, 1), 4);
        due("c has b alone", x.nodeOf(2, 2), 2);
        LightClassifier y = with("a<b;b=c;a<c;");
        due("NAMES of its own are not between", y.nodeOf(0, 1), 2);
        LightClassifier z = with("a<b;b<nothing;a<c;");
        due("VOID ones are not between", z.nodeOf(z.node(name(z, 'c')), 2), 0);
        LightClassifier v = with("b<c;a<b;");
        due("NODE 0 is between", v.nodeOf(2, 1), 1);
        due("of c: NODE 0 alone", v.nodeOf(1, 2), 1);
        LightClassifier w = with("a<b;a<c;b<d;c<d;");
        due("CHILD of two", w.nodeOf(0, 1), 6);
        due("of d: b, c", w.nodeOf(3, 2), 6);
    }

    static void t2_childOfTop() {
        says("Terms 2", "of TOP, if it is below no other NODE");
        LightClassifier x = with("a<b;c<t;top<t;");
        due("b", x.nodeOf(1, 1), 0);
        due("a is none", x.nodeOf(0, 1), 2);
        due("c, below TOP's NAME alone", x.nodeOf(2, 1), 0);
        due("c, below no NODE", x.nodeOf(2, 3), 0);
    }

    static void t2_depth() {
        says("Terms 2", "DEPTH: the most steps from TOP down to it, from CHILD to CHILD.");
        LightClassifier x = with("a<d;a<b;b<c;c<d;top<t;d<t;");
        // NODES: 0 a, 1 d, 2 b, 3 c.
        int[] want = {4, 1, 2 + 1, 2};
        for (int k = 0; k < want.length; k++) {
            due("DEPTH of " + k, x.nodeOf(k, 5), want[k]);
        }
        LightClassifier y = with("a<b;a<c;c<d;e<e;");
        due("the longer way counts", y.nodeOf(0, 5), 3);
        due("alone", y.nodeOf(y.node(name(y, 'e')), 5), 1);
        LightClassifier z = with("a<b;b<c;c<d;d<e;e<f;f<g;g<h;h<i;i<j;j<k;k<l;l<m;m<n;n<o;o<p;p<q;q<r;r<s;s<t;t<u;u<v;v<w;w<x;");
        due("the most there can be", z.nodeOf(0, 5), 24);
        LightClassifier w = with("x<w;w<v;v<u;u<t;t<s;s<r;r<q;q<p;p<o;o<n;n<m;m<l;l<k;k<j;j<i;i<h;h<g;g<f;f<e;e<d;d<c;c<b;b<a;".replace("x<w;", "b<a;x<w;"));
        due("the most, numbered the other way", w.nodeOf(w.node(name(w, 'x')), 5), 24);
    }

    static void t2_common() {
        says("Terms 2", "COMMON of two NAMES: the NODES that both are below and of which no CHILD is such");
        LightClassifier x = with("a<c;b<c;a<d;b<d;c<e;d<e;e<f;");
        // NODES: 0 a, 1 c, 2 b, 3 d, 4 e, 5 f.
        due("c and d, not e", x.common(0, 2), 2 | 8);
        due("its own NODE", x.common(0, 0), 1);
        due("one is below the other", x.common(0, 4), 16);
        LightClassifier y = with("a=b;b<c;");
        due("of one NODE", y.common(0, 1), 1);
    }

    static void t2_commonNone() {
        says("Terms 2", "(of TOP, if there is no NODE such: none).");
        LightClassifier x = with("a<b;c<d;top<t;");
        due("no NODE", x.common(0, 2), 0);
        due("with a NAME of TOP", x.common(0, name(x, 't')), 0);
        due("of TOP twice", x.common(name(x, 't'), name(x, 't')), 0);
    }

    // ==== 2: why

    static void t2_whyFirstRule() {
        says("Terms 2", "WHY Y is in ABOVE(X): the first rule, in the order above, that brings it in the ROUND in which it came");
        LightClassifier x = with("c<d;a<b;b<d;b<c;");
        due("the AXIOM of that ROUND, not a lesser one of a later ROUND", x.why(part(x, 'a'), part(x, 'd'), 1), 2);
        LightClassifier y = with("a<d&e;a<b;b<c;c<d;");
        due("an AND brings d in ROUND 2, an AXIOM only in ROUND 3", y.why(part(y, 'a'), part(y, 'd'), 0), 2);
        LightClassifier z = with("a<d&e;a<b;b<d;");
        due("both in ROUND 2", z.why(part(z, 'a'), part(z, 'd'), 0), 1);
    }

    static void t2_why0() {
        says("Terms 2", "0 it was there in ROUND 0");
        LightClassifier x = with("a<a;a<top;top<a;nothing<a;");
        due("itself, with an AXIOM for it", x.why(2, 2, 0), 0);
        due("TOP, with an AXIOM for it", x.why(2, 0, 0), 0);
        due("TOP in TOP", x.why(0, 0, 0), 0);
        due("NOTHING in NOTHING", x.why(1, 1, 0), 0);
        due("no more of it", x.why(2, 2, 1), NONE);
    }

    static void t2_why1() {
        says("Terms 2", "1 an AXIOM");
        LightClassifier x = with("a<b;a<c;b<b&c;");
        due("of AXIOM and AND", x.why(2, x.axiom(2, 3), 0), 1);
        LightClassifier y = with("a<p;p<q;q<some s c;a<some r b;b<c;r<<s;");
        due("of AXIOM and LINK", y.why(2, y.axiom(2, 3), 0), 1);
        LightClassifier z = with("a<p;p<q;q<nothing;a<some r v;v<nothing;");
        due("of AXIOM and NOTHING by a LINK", z.why(2, 1, 0), 1);
        due("its AXIOM", z.why(2, 1, 1), 2);
        LightClassifier w = with("b=a;");
        due("EQUAL, back", w.why(part(w, 'a'), part(w, 'b'), 0), 1);
        LightClassifier v = with("c=d;b=c;a<b;");
        due("no EQUAL of others", v.why(part(v, 'a'), part(v, 'b'), 1), 2);
    }

    static void t2_why2() {
        says("Terms 2", "2 an AND is in ABOVE(X)");
        LightClassifier x = with("a<(b&c)&e;a<b;a<c;");
        due("out of an AND and by its two", x.why(2, 5, 0), 2);
        due("5 is b & c", x.part(5, 0), 3);
        LightClassifier y = with("a<p;p<some s c&e;a<some r b;b<c;r<<s;");
        int some = y.part(y.axiom(1, 3), 1);
        due("out of an AND and by a LINK", y.why(2, some, 0), 2);
        due("in one ROUND", y.when(2, some), 3);
        LightClassifier z = with("a<p;p<nothing&e;a<some r v;v<nothing;");
        due("NOTHING out of an AND and by a LINK", z.why(2, 1, 0), 2);
        due("in one ROUND", z.when(2, 1), 3);
    }

    static void t2_why3() {
        says("Terms 2", "3 it is an AND");
        LightClassifier x = with("a<b;a<c;b&c<d;");
        due("the rule", x.why(2, x.axiom(2, 2), 0), 3);
        due("of one twice", with("a&a<b;").why(2, 3, 0), 3);
    }

    static void t2_why4() {
        says("Terms 2", "4 it is a SOME, by a LINK");
        LightClassifier x = with("a<some r b;b<c;some r c<d;");
        due("the rule", x.why(2, x.axiom(2, 2), 0), 4);
        due("the PART", x.why(2, x.axiom(2, 2), 1), part(x, 'b'));
        // c is in ABOVE(a), too, but a SOME is no AND.
        LightClassifier y = with("a<some r b;a<c;b<c;some r c<d;");
        due("no other rule", y.why(2, y.axiom(3, 2), 0), 4);
    }

    static void t2_why5() {
        says("Terms 2", "5 it is NOTHING, by a LINK.");
        LightClassifier x = with("a<some r b;b<nothing;");
        due("the rule", x.why(2, 1, 0), 5);
        due("the PART", x.why(2, 1, 1), part(x, 'b'));
        due("NOTHING linked to", with("a<some r nothing;").why(2, 1, 1), 1);
    }

    // ==== 2: which AXIOMS

    static void t2_needed() {
        says("Terms 2", "NEEDED for X below Y (NAMES): AXIOMS that are ON and without which (each alone) it is not so.");
        LightClassifier x = with("a<b;b<c;a<b;");
        due("two that are alike: neither alone", x.needed(0, 2), 2);
        x.turn(2);
        due("one of them OFF", x.needed(0, 2), 3);
        LightClassifier y = with("a<some r b;r*s<<t;b<some s c;some u c<d;t<<u;");
        due("AXIOMS of ROLES, too", y.needed(0, 3), 31);
        LightClassifier z = with("a<some r a;r<<s;some s a<b;");
        due("a LINK to itself", z.needed(0, 1), 7);
        LightClassifier w = with("u<<u;t<<u;a<some r b;b<some s c;r*s<<t;some u c<d;s<<s;");
        due("a CHAIN of later ROLES, below earlier ones", w.needed(0, name(w, 'd')), 2 | 4 | 8 | 16 | 32);
        LightClassifier u = with("s<<s;a<some r b;r<<s;some s b<d;");
        due("a later ROLE below an earlier one", u.needed(0, name(u, 'd')), 2 | 4 | 8);
        LightClassifier v = with("a=b;c=b;");
        due("EQUAL, forth and back", v.needed(0, 2), 3);
        due("EQUAL, back and forth", v.needed(2, 0), 3);
        due("the highest bit", with("a<a;".repeat(31) + "a<b;").needed(0, 1), 1L << 31);
    }

    static void t2_enough() {
        says("Terms 2", "ENOUGH: of those that are ON, AXIOM by AXIOM from 0 on each is left out for good, if it is so by what is left then.");
        LightClassifier x = with("a<c;a<b;b<c;a<c;");
        due("the last that can be", x.enough(0, 1), 8);
        x.turn(3);
        due("with that OFF", x.enough(0, 1), 6);
        x.turn(1);
        due("with two OFF", x.enough(0, 1), 1);
        due("none of 32", with("a<b;".repeat(32)).enough(0, 0), 0);
        due("the last of 32", with("a<b;".repeat(32)).enough(0, 1), 1L << 31);
    }

    static void t2_reasons() {
        says("Terms 2", "REASONS: all sets of AXIOMS that are ON by which alone it is so, and by no set within it");
        LightClassifier x = with("a<b;b<c;a<c;c<d;");
        due("two", x.reason(0, 2, NONE), 2);
        due("not with what is not needed", x.reason(0, 2, 0), 3);
        due("the other one", x.reason(0, 2, 1), 4);
        x.turn(2);
        due("with one OFF", x.reason(0, 2, NONE), 1);
        due("of no AXIOMS one, of none", x.reason(0, 0, NONE), 1);
        due("the set of none", x.reason(0, 0, 0), 0);
        reasonsAre("a<m;a<m;m<z;m<z;", 5, 6, 9, 10);
        reasonsAre("a<q;a<a;a<a;q<z;a<p;p<q;p<z;", 9, 56, 80);
        reasonsAre("a=m;m=z;a=z;", 3, 4);
        reasonsAre("a<some r m;r<<s;some s m<z;some r m<z;", 7, 9);
        reasonsAre("a<some r m;m<some s n;r*s<<t;some t n<z;m<nothing;", 15, 17);
    }

    /** All REASONS for a below z. */
    private static void reasonsAre(String text, long... want) {
        LightClassifier x = with(text);
        int a = name(x, 'a');
        int z = name(x, 'z');
        due("how many REASONS of " + text, x.reason(a, z, NONE), want.length);
        for (int k = 0; k < want.length; k++) {
            due("REASON " + k + " of " + text, x.reason(a, z, k), want[k]);
        }
        due("no more REASONS of " + text, x.reason(a, z, want.length), NONE);
    }

    static void t2_reasonsInOrder() {
        says("Terms 2", "in order as numbers (of bits)");
        LightClassifier x = with("b<z;c<z;a<c;a<b;" + "a<a;".repeat(27) + "a<z;");
        int z = name(x, 'z');
        int a = name(x, 'a');
        due("how many", x.reason(a, z, NONE), 3);
        due("first", x.reason(a, z, 0), 2 | 4);
        due("second", x.reason(a, z, 1), 1 | 8);
        due("bit 31 is no sign", x.reason(a, z, 2), 1L << 31);
    }

    static void t2_reasonsTooMany() {
        says("Terms 2", "TOO MANY, if there are more than 4.");
        for (int k = 1; k <= 6; k++) {
            LightClassifier x = with("a<b;".repeat(k));
            due(k + " REASONS", x.reason(0, 1, NONE), k > 4 ? -3 : k);
        }
        LightClassifier y = with("a<c;a<d;a<e;a<f;c<b;d<b;e<b;f<b;a<c&d;");
        due("a fifth one and more that share AXIOMS", y.reason(0, name(y, 'b'), NONE), -3);
    }

    static void t2_repair() {
        says("Terms 2", "REPAIR: of all sets of AXIOMS that are ON, without which it is not so, one of fewest, of these the least as a number.");
        LightClassifier x = with("a<b;b<c;");
        due("the least of two of one", x.repair(0, 2), 1);
        LightClassifier y = with("a<b;a<c;b<d;c<d;d<e;");
        due("one of one, not two of lesser numbers", y.repair(0, name(y, 'e')), 16);
        due("two", y.repair(0, name(y, 'd')), 3);
        LightClassifier z = with("a<b;".repeat(4));
        due("all of four", z.repair(0, 1), 15);
        LightClassifier w = with("a<a;".repeat(28) + "a<b;".repeat(4));
        due("the highest bits", w.repair(0, 1), 0xF0000000L);
        z.turn(0);
        due("of those that are ON", z.repair(0, 1), 14);
        LightClassifier v = with("a<p;p<z;p<z;a<z;");
        due("one for two, one for the third", v.repair(0, 2), 1 | 8);
        LightClassifier u = with("a<m;a<m;m<z;m<z;");
        due("two for four", u.repair(0, 2), 3);
    }

    static void t2_model() {
        says("Terms 2", "MODEL: of all PARTS that are not VOID; X is in a NAME, if that is in ABOVE(X)");
        LightClassifier x = with("a<b;v<nothing;c<some r v;");
        // 2 a, 3 b, 4 v, 5 c, 6 some r v.
        due("all", model(x, "top"), 1 | 4 | 8);
        due("in b", model(x, "b"), 4 | 8);
        due("what is VOID is in none", model(x, "v"), 0);
        due("nor is what is linked to it", model(x, "c"), 0);
    }

    static void t2_modelLinks() {
        says("Terms 2", "X goes by a ROLE r to Y, if there is a LINK X r' Y, r' UNDER r");
        LightClassifier x = with("a<some r b;r<<s;t<<r;");
        // 2 a, 3 b, 4 some r b.
        due("by r", model(x, "some r b"), 4 | 16);
        due("by s", model(x, "some s b"), 4 | 16);
        due("by t", model(x, "some t b"), 0);
        due("of TOP and all", model(with("top<some r a;"), "some r a"), 1 | 4 | 8);
    }

    static void t2_modelOfConcepts() {
        says("Terms 2", "and so in AND of two, if in both; in SOME r C, if it goes by r to one that is in C; all are in TOP, none in NOTHING.");
        LightClassifier x = with("a<b;a<c;d<b;a<some r d;");
        // 2 a, 3 b, 4 c, 5 d, 6 some r d.
        due("in b", model(x, "b"), 4 | 8 | 32);
        due("in both", model(x, "b&c"), 4);
        due("in one twice", model(x, "c&c"), 4 | 16);
        due("by r to one in b", model(x, "some r b"), 4 | 64);
        due("by r to one in c", model(x, "some r c"), 0);
        due("TOP", model(x, "top"), 127 - 2);
        due("NOTHING", model(x, "nothing"), 0);
        due("by r to any", model(x, "some r top"), 4 | 64);
        due("by r to none", model(x, "some r nothing"), 0);
        due("by r and on", model(x, "some r some r top"), 0);
    }

    static void t2_likeness() {
        says("Terms 2", "LIKENESS of two NAMES: how many NAMES both are below, by how many at least one of them is (in lowest terms).");
        LightClassifier x = with("a<c;b<c;c<d;a<e;b<f;e<g;f<g;h<h;");
        // Of a: a, c, d, e, g; of b: b, c, d, f, g.
        due("3 by 7", x.likeness(0, 2, 0), 3);
        due("3 by 7", x.likeness(0, 2, 1), 7);
        due("none by 6", x.likeness(0, name(x, 'h'), 0), 0);
        due("none by 6, in lowest terms", x.likeness(0, name(x, 'h'), 1), 1);
        due("5 by 5", x.likeness(0, 0, 0), 1);
        due("5 by 5", x.likeness(0, 0, 1), 1);
        LightClassifier y = with(NAMES_24 + "top<nothing;");
        due("24 by 24", y.likeness(0, 23, 0), 1);
        due("24 by 24", y.likeness(0, 23, 1), 1);
        LightClassifier z = with("v<nothing;a<b;b<c;c<d;d<e;e<f;f<g;g<h;h<i;i<j;j<k;k<l;m<n;o<p;q<r;s<t;u<w;x<a;");
        // v is below all 24, a below 12.
        due("12 by 24", z.likeness(0, 1, 0), 1);
        due("12 by 24", z.likeness(0, 1, 1), 2);
    }

    // ==== 3: MODULES

    private static void in(String text, int names, int roles, int way, long want) {
        due("module(" + names + ", " + roles + ", " + way + ") of " + text, with(text).module(names, roles, way), want);
    }

    static void t3_amongOn() {
        says("Terms 3", "MODULES for a set of NAMES and ROLES (the SIGNS), among the AXIOMS that are ON.");
        LightClassifier x = with("a<b;b<c;c<d;");
        due("all", x.module(1, 0, 0), 7);
        x.turn(1);
        due("one OFF", x.module(1, 0, 0), 1);
        due("one OFF, its NAMES among the SIGNS", x.module(3, 0, 0), 1);
        due("one OFF, from above", x.module(8, 0, 1), 4);
        due("one OFF, in turn", x.module(15, 0, 2), 5);
    }

    static void t3_belowLost() {
        says("Terms 3", "From below (way 0): a CONCEPT is LOST: a NAME not in SIGNS, NOTHING, an AND of which one is LOST, SOME r C if r is not in SIGNS or C is LOST");
        in("a<b;", 0, 0, 0, 0);
        in("a<b;", 2, 0, 0, 0);
        in("a<b;", 1, 0, 0, 1);
        in("nothing<a;", 1, 0, 0, 0);
        in("a&b<c;", 1 | 4, 0, 0, 0);
        in("a&b<c;", 2 | 4, 0, 0, 0);
        in("a&b<c;", 1 | 2, 0, 0, 1);
        in("a&nothing<c;", 3, 0, 0, 0);
        in("some r a<b;", 3, 0, 0, 0);
        in("some r a<b;", 2, 1, 0, 0);
        in("some r a<b;", 1, 1, 0, 1);
        in("some r nothing<b;", 1, 1, 0, 0);
        in("top<a;", 0, 0, 0, 1);
    }

    static void t3_belowFull() {
        says("Terms 3", "FULL: TOP, an AND of which both are FULL.");
        in("a<top;", 1, 0, 0, 0);
        in("a<top&top;", 1, 0, 0, 0);
        in("a<top&b;", 1, 0, 0, 1);
        in("a<b&top;", 1, 0, 0, 1);
        in("a<some r top;", 1, 0, 0, 1);
        in("a<b;", 1, 0, 0, 1);
    }

    static void t3_aboveFull() {
        says("Terms 3", "From above (way 1): FULL: a NAME not in SIGNS, TOP, an AND of which both are FULL, SOME r C if r is not in SIGNS and C is FULL");
        in("a<b;", 0, 0, 1, 0);
        in("a<b;", 1, 0, 1, 0);
        in("a<b;", 2, 0, 1, 1);
        in("a<top;", 1, 0, 1, 0);
        in("a<b&c;", 1, 0, 1, 0);
        in("a<b&c;", 2, 0, 1, 1);
        in("a<b&c;", 4, 0, 1, 1);
        in("a<b&top;", 1, 0, 1, 0);
        in("a<some r b;", 1, 0, 1, 0);
        in("a<some r b;", 2, 0, 1, 1);
        in("a<some r b;", 0, 1, 1, 1);
        in("a<some r top;", 1, 0, 1, 0);
        in("a<nothing;", 0, 0, 1, 1);
    }

    static void t3_aboveLost() {
        says("Terms 3", "LOST: NOTHING, an AND of which one is LOST, SOME r C if C is LOST.");
        in("nothing<a;", 1, 0, 1, 0);
        in("nothing&b<a;", 3, 0, 1, 0);
        in("b&nothing<a;", 3, 0, 1, 0);
        in("some r nothing<a;", 1, 1, 1, 0);
        in("some r(nothing&b)<a;", 3, 1, 1, 0);
        in("some r b<a;", 2, 0, 1, 1);
        in("b&c<a;", 4, 0, 1, 1);
        in("top<a;", 1, 0, 1, 1);
    }

    static void t3_idle() {
        says("Terms 3", "C below D is IDLE, if C is LOST or D is FULL; EQUAL, if it is both ways");
        in("a<b;", 0, 0, 0, 0);
        in("b<top;", 1, 0, 0, 0);
        in("nothing<top;", 0, 0, 0, 0);
        in("top<nothing;", 0, 0, 0, 1);
        in("top<nothing;", 0, 0, 1, 1);
        in("a=b;", 0, 0, 0, 0);
        in("a=b;", 1, 0, 0, 1);
        in("a=b;", 2, 0, 0, 1);
        in("a=top;", 0, 0, 0, 1);
        in("a=top;", 0, 0, 1, 0);
        in("a=top;", 1, 0, 1, 1);
        in("a=nothing;", 0, 0, 0, 0);
        in("a=nothing;", 1, 0, 0, 1);
        in("a=nothing;", 0, 0, 1, 1);
        in("a=b;", 1, 0, 1, 1);
        in("a=b;", 0, 0, 1, 0);
    }

    static void t3_idleRoles() {
        says("Terms 3", "r below s, from below: r is not in SIGNS; from above: s is not in SIGNS");
        in("r<<s;", 0, 1, 0, 1);
        in("r<<s;", 0, 2, 0, 0);
        in("r<<s;", 0, 1, 1, 0);
        in("r<<s;", 0, 2, 1, 1);
    }

    static void t3_idleChain() {
        says("Terms 3", "CHAIN, from below: r or s is not in SIGNS; from above: t is not in SIGNS.");
        for (int roles = 0; roles < 8; roles++) {
            in("r*s<<t;", 0, roles, 0, (roles & 3) == 3 ? 1 : 0);
            in("r*s<<t;", 0, roles, 1, (roles & 4) != 0 ? 1 : 0);
        }
        in("r*r<<r;", 0, 1, 0, 1);
    }

    static void t3_module() {
        says("Terms 3", "The MODULE: at first nothing; all AXIOMS that are not IDLE by SIGNS and all NAMES, ROLES in the MODULE come to it, until none more does.");
        in("c<d;b<c;a<b;", 8, 0, 0, 7);
        in("c<d;b<c;a<b;", 4, 0, 0, 3);
        in("c<d;b<c;a<b;", 1 << 1, 0, 0, 0);
        in("c<d;b<c;a<b;", 2, 0, 1, 7);
        in("r<<s;a<some r b;some s b<c;", 1, 0, 0, 7);
        in("r<<s;some s a<b;s*r<<t;", 0, 1, 0, 5);
        in("", 0, 0, 0, 0);
        in("a<b&c;b<d;c<e;", 1, 0, 0, 7);
        in("a<some r b&some s c;r<<t;s<<t;c<c&a;", 1, 0, 0, 15);
        in("a<some r(b&c);b<d;r<<s;", 1, 0, 0, 7);
        in("r*s<<t;t<<u;", 0, 3, 0, 3);
        in("r*s<<t;u<<r;v<<s;", 0, 4, 1, 7);
        in("t<<t;r*s<<t;u<<r;v<<s;", 0, 1, 1, 15);
        in("a<b;b<c;c<d;d<e;e<f;f<g;g<h;h<i;i<j;j<k;k<l;l<m;m<n;n<o;o<p;p<q;q<r;r<s;s<t;t<u;u<v;v<w;w<x;", 1, 0, 0, (1 << 23) - 1);
        in("a<b;b<c;c<d;d<e;e<f;f<g;g<h;h<i;i<j;j<k;k<l;l<m;m<n;n<o;o<p;p<q;q<r;r<s;s<t;t<u;u<v;v<w;w<x;", 1 << 23, 0, 1, (1 << 23) - 1);
        in("a<b;".repeat(32), 1, 0, 0, 0xFFFFFFFFL);
    }

    static void t3_inTurn() {
        says("Terms 3", "Way 2: the MODULE from below, in that the one from above, in that the one from below, .., until it stays as it is.");
        // a to d: from below b<e, from above c<d would go.
        in("a<b;b<d;b<e;c<d;", 1 | 4, 0, 0, 1 | 2 | 4);
        in("a<b;b<d;b<e;c<d;", 1 | 4, 0, 1, 1 | 2 | 8);
        in("a<b;b<d;b<e;c<d;", 1 | 4, 0, 2, 1 | 2);
        in("a<b;", 1, 0, 2, 0);
        in("a<b;", 3, 0, 2, 1);
        in("r<<s;s<<t;", 0, 1, 2, 0);
        in("r<<s;s<<t;s<<u;v<<t;", 0, 1 | 4, 2, 3);
    }

    static void t3_atoms() {
        says("Terms 3", "ATOMS: AXIOMS that are ON of which the MODULES (from below) for their own NAMES and ROLES are one; told by the least of them.");
        LightClassifier x = with("c<d;a<b;b<a;d<c;e<top;f<top;");
        int[] want = {0, 1, 1, 0, 4, 4};
        for (int k = 0; k < want.length; k++) {
            due("atom(" + k + ")", x.atom(k), want[k]);
        }
        x.turn(1);
        due("the least that is ON", x.atom(2), 2);
        x.turn(0);
        due("the least that is ON", x.atom(3), 3);
    }

    static void t3_depends() {
        says("Terms 3", "One DEPENDS on another one, if that is in its MODULE.");
        LightClassifier x = with("b<c;a<b;r<<s;c<some r d;");
        due("of AXIOM 1", x.depends(1), 15);
        due("of AXIOM 0", x.depends(0), 1 | 4 | 8);
        due("of AXIOM 2", x.depends(2), 4);
        due("of AXIOM 3", x.depends(3), 4 | 8);
    }

    // ==== 4

    static void t4_tape() {
        says("Terms 4", "The TAPE has up to 400 bytes.");
        LightClassifier x = new LightClassifier();
        for (int k = 1; k <= 20; k++) {
            due("feed " + k, x.feed(0, 0, 0, 0, 0), 20 * k);
        }
        due("feed 21", x.feed(0, 0, 0, 0, 0), NONE);
        due("the TAPE", x.told(9), 400);
    }

    static void t4_bits() {
        says("Terms 4", "Sets of NAMES, ROLES, NODES, AXIOMS are bits (0 on).");
        LightClassifier x = with("a<b;r<<s;c<nothing;");
        due("NAMES", x.nothing(), 4);
        due("ROLES", x.under(0), 3);
        due("NODES", x.nodeOf(0, 1), 2);
        due("AXIOMS", x.needed(0, 1), 1);
        due("AXIOM 31, no sign", with("a<a;".repeat(31) + "b<c;").depends(31), 1L << 31);
        due("AXIOMS 0 to 31", with("a<b;".repeat(32)).depends(0), (1L << 32) - 1);
    }

    static void t4_askedNothingChanges() {
        says("Terms 4", "Asked, nothing stays changed.");
        Deed[] questions = {
            x -> x.fault(), x -> x.told(5), x -> x.axiom(0, 1), x -> x.part(2, 0), x -> x.letter(0, 0, 0), x -> x.named(0),
            x -> x.below(2, 3) ? 1 : 0, x -> x.when(2, 3), x -> x.why(2, 3, 1), x -> x.link(2, 0, 3) ? 1 : 0, x -> x.under(0),
            x -> x.node(0), x -> x.nodeOf(0, 5), x -> x.nothing(), x -> x.common(0, 1), x -> x.needed(0, 1), x -> x.enough(0, 1),
            x -> x.reason(0, 1, NONE), x -> x.repair(0, 1), x -> x.likeness(0, 1, 0), x -> x.atom(0), x -> x.depends(0),
            x -> x.module(1, 0, 2), x -> x.print(), x -> x.status(0)};
        for (int k = 0; k < questions.length; k++) {
            LightClassifier x = with("a<b;b<some r c;r<<s;some s c<d;v<nothing;");
            x.turn(3);
            feed(x, "a<d;");
            String before = state(x);
            long first = questions[k].on(x);
            due("state behind question " + k, state(x), before);
            due("question " + k + " again", questions[k].on(x), first);
            due("the TAPE behind question " + k, x.text(4), 1);
        }
        String[] concepts = {"a", "some s(b&d)", "v&a", "some r some r some r v", "nothing", "x", "a&", "a&".repeat(60) + "a"};
        for (String concept : concepts) {
            LightClassifier x = with("a<b;b<some r c;r<<s;some s c<d;v<nothing;");
            x.turn(3);
            String before = state(x);
            ask(x, concept + "<" + concept);
            of(x, 0, concept);
            of(x, 1, concept);
            of(x, 2, concept);
            model(x, concept);
            // What a question changes is fault() alone.
            ask(x, "a<a");
            due("state behind " + concept, state(x), before);
            due("PARTS that a question told are none", x.told(4), 9);
        }
    }

    static void t4_firstToldIsThrown() {
        says("Terms 4", "Of several exceptions of one call the one told first is thrown");
        LightClassifier x = with("v<nothing;a<b;");
        noSuch("axiom", () -> x.axiom(2, 5));
        noSuch("part", () -> x.part(5, 3));
        noSuch("why", () -> x.why(0, 5, 2));
        noSuch("why", () -> x.why(5, 0, -1));
        noSuch("nodeOf", () -> x.nodeOf(2, 6));
        noSuch("likeness", () -> x.likeness(0, 3, 2));
        noSuch("likeness", () -> x.likeness(3, 0, 2));
        noSuch("common, the second one", () -> x.common(0, 3));
        noSuch("common, the first one", () -> x.common(3, 0));
        due("one is counted", x.status(0), 9);
        due("no other", x.status(1), 0);
        due("no other", x.status(2), 0);
    }

    static void t4_throwsChangesNothing() {
        says("Terms 4", "a call that throws changes nothing but status().");
        Deed[] noSuch = {
            x -> x.turn(5), x -> x.axiom(5, 0), x -> x.part(99, 0), x -> x.letter(0, 0, 1), x -> x.named(5), x -> x.below(99, 0) ? 1 : 0,
            x -> x.when(0, 99), x -> x.why(0, 99, 0), x -> x.link(0, 2, 0) ? 1 : 0, x -> x.under(2), x -> x.node(5), x -> x.nodeOf(5, 0),
            x -> x.common(0, 5), x -> x.needed(0, 5), x -> x.enough(5, 0), x -> x.reason(0, 5, 0), x -> x.repair(5, 0),
            x -> x.likeness(0, 5, 0), x -> x.atom(5), x -> x.depends(5)};
        Deed[] argument = {
            x -> x.text(21), x -> x.text(-1), x -> x.told(12), x -> x.axiom(0, 5), x -> x.part(0, 3), x -> x.why(0, 0, 2),
            x -> x.nodeOf(0, 6), x -> x.likeness(0, 0, 2), x -> x.module(0, 0, 3), x -> x.ask(21), x -> x.of(3, 4), x -> x.of(0, 21),
            x -> x.model(21)};
        Deed[] state = {x -> x.common(0, 4), x -> x.common(4, 0)};
        throwsAll(noSuch, 0, NO_SUCH);
        throwsAll(argument, 1, ARGUMENT);
        throwsAll(state, 2, STATE);
    }

    private static void throwsAll(Deed[] deeds, int counted, Class<?> by) {
        for (int k = 0; k < deeds.length; k++) {
            Deed deed = deeds[k];
            String what = by.getSimpleName() + ", call " + k;
            LightClassifier x = with("a<b;b<some r c;r<<s;some s c<d;v<nothing;");
            ask(x, "a<");
            x.turn(3);
            feed(x, "a<d;");
            String before = state(x);
            refused(what, by, () -> deed.on(x));
            due("state behind " + what, state(x), before);
            for (int s = 0; s < 3; s++) {
                due("status(" + s + ") behind " + what, x.status(s), s == counted ? 1 : 0);
            }
            due("what can be taken back behind " + what, x.undo(), 0);
            due("the TAPE behind " + what, x.text(4), 1);
        }
    }
}
