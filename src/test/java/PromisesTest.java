/** One method a promise: ordinary inputs, the edges that the document names, wrong inputs. */
public final class PromisesTest extends Checks {
    private static void promise01NewObject() {
        LightClassifier x = new LightClassifier();
        int[] want = {0, 0, 0, 0, 2, 0, 0, 0, 0, 0, 0, 3};
        for (int k = 0; k < want.length; k++) {
            due("told(" + k + ") of a new object", x.told(k), want[k]);
        }
        due("print() of a new object", x.print(), 29853);
        for (int k = 0; k < 3; k++) {
            due("status(" + k + ") of a new object", x.status(k), 0);
        }
    }

    private static void promise02Feed() {
        LightClassifier x = new LightClassifier();
        due("feed", x.feed(0x613C623B, 0x20202020, 0x20202020, 0x20202020, 0x20202020), 20);
        due("text, the highest byte first", x.text(20), 1);
        due("letter", x.letter(0, 0, 0), 'a');
        for (int k = 1; k <= 20; k++) {
            due("feed " + k, x.feed(-1, 0, 0, 0, 0), 20 * k);
        }
        due("feed of more than 400", x.feed(1, 2, 3, 4, 5), NONE);
        due("the tape stays", x.told(9), 400);
        due("text of byte 255", x.text(400), 1 - 10);
        due("fault() at byte 255", x.fault(), 0);
        due("feed behind it", x.feed(1, 2, 3, 4, 5), 20);
        due("all five numbers", tell(new LightClassifier(), "a<b;a<c;a<d;a<e;a<f;"), 5);
    }

    private static void promise03Text() {
        good("", 0);
        good("   ", 0);
        good("a<b;", 1);
        good(" a < b ; c = d ; r << s ; r * s << t ; ", 4);
        good("top<nothing;", 1);
        good("some r some s some t a<some r(a&b);", 1);
        good("((((((a))))))<((((((b))))));", 1);
        good("a<b;".repeat(32), 32);
        good("a&".repeat(57) + "a<a;", 1);
        good("abcdef<tops;somes<r;nothin<to;", 3);
        good("r<<r;r<r;", 2);
        good("some r a<b;r<r;", 2);
        LightClassifier x = with("a<b;c<d;");
        x.turn(0);
        due("text anew", tell(x, "c<e;"), 1);
        due("each is ON", x.axiom(0, 1), 1);
        due("names anew", x.told(2), 2);
        due("nothing can be taken back", x.undo(), NONE);
        feed(x, "a<b;c<d;");
        due("text of fewer bytes than there are", x.text(4), 1);
        due("the tape is empty then", x.told(9), 0);
        feed(x, "a<b;");
        wrongArgument("text(-1)", () -> x.text(-1));
        wrongArgument("text(21)", () -> x.text(21));
        due("the tape stays", x.told(9), 20);
        due("text of nothing", x.text(0), 0);
        due("axioms of nothing", x.told(0), 0);
        due("the tape behind it", x.told(9), 0);
        faultsOfSigns();
        faultsOfLimits();
    }

    private static void faultsOfSigns() {
        fault("a", 1, 1);
        fault("a<", 1, 2);
        fault("a<  ", 1, 4);
        fault("a<b", 1, 3);
        fault("a<b c;", 1, 4);
        fault("a<b;;", 1, 4);
        fault("a<b;)", 1, 4);
        fault("a< <b;", 1, 3);
        fault("a<<<b;", 1, 3);
        fault("a==b;", 1, 2);
        fault("A<b;", 1, 0);
        fault("a<b1;", 1, 3);
        fault("a\t<b;", 1, 1);
        fault("a<\u00e4;", 1, 2);
        fault("(a<b;", 1, 2);
        fault("a)<b;", 1, 1);
        fault("()<b;", 1, 1);
        fault("a&<b;", 1, 2);
        fault("a<&b;", 1, 2);
        fault("a&b&;", 1, 4);
        fault("some<b;", 1, 4);
        fault("some top a<b;", 1, 5);
        fault("some r<b;", 1, 6);
        fault("some some a<b;", 1, 5);
        fault("top<<r;", 1, 3);
        fault("r<<top;", 1, 3);
        fault("r<<nothing;", 1, 3);
        fault("r*s<t;", 1, 3);
        fault("r*s*t<<u;", 1, 3);
        fault("r<<s*t;", 1, 4);
        fault("r<<(s);", 1, 3);
        fault("(r)<<s;", 1, 3);
        fault("a&r<<s;", 1, 3);
        fault("a<r*s;", 1, 3);
        fault("a<b abcdefgh", 1, 4);
    }

    private static void faultsOfLimits() {
        fault("abcdefg<b;", 2, 0);
        fault("a<nothings;", 2, 2);
        fault("some abcdefg a<b;", 2, 5);
        fault("abcdefg*r<<s;", 2, 0);
        fault("r*s<<abcdefgh;", 2, 5);
        fault("a<abcdefg$", 2, 2);
        fault("a<b;".repeat(32) + "c<d;", 3, 128);
        fault("a<b;".repeat(32) + " (c", 3, 129);
        fault("a<b;".repeat(32) + "some", 3, 128);
        fault("a<b;".repeat(32) + "<b;", 1, 128);
        fault("a<b;".repeat(32) + "abcdefg", 2, 128);
        fault("a<b&c&d&e&f&g&h&i&j&k&l&m&n&o&p&q&r&s&t&u&v&w&x&y;", 3, 48);
        good("a<b&c&d&e&f&g&h&i&j&k&l&m&n&o&p&q&r&s&t&u&v&w&x;", 1);
        fault("r*s<<t;u*v<<w;x<<y;some z a<b;", 3, 24);
        fault("r*s<<t;u*v<<w;x<<y;x<<z;", 3, 22);
        fault("r*s<<t;u*v<<w;x<<y;z<<x;", 3, 19);
        good("r*s<<t;u*v<<w;x<<y;z<x;", 4);
        fault("(((((((a)))))))<b;", 4, 6);
        fault("a<(some r((((((b))))))&(c));", 4, 14);
        good("a<(some r(((((b)))))&(c));", 1);
        fault("a&".repeat(58) + "a<a;", 5, 0);
        fault("b<b; " + "a&".repeat(57) + "a<a;", 5, 5);
        fault("a&".repeat(58) + "a<a&;", 1, 120);
        fault("a&".repeat(58) + "a<abcdefg;", 2, 118);
        fault("a&".repeat(58) + "a<a;b<", 5, 0);
    }

    private static void promise04Fault() {
        LightClassifier x = new LightClassifier();
        due("fault() ahead of any", x.fault(), NONE);
        tell(x, "a<b");
        due("fault() of a text", x.fault(), 3);
        wrongArgument("text of too much", () -> x.text(1));
        wrongArgument("of another what", () -> x.of(3, 0));
        due("fault() behind refusals", x.fault(), 3);
        tell(x, "a<b;");
        due("fault() of a good text", x.fault(), NONE);
        ask(x, "a<");
        due("fault() of ask", x.fault(), 2);
        ask(x, "a<b");
        due("fault() of a good ask", x.fault(), NONE);
        of(x, 0, "a b");
        due("fault() of of", x.fault(), 2);
        of(x, 0, "a");
        due("fault() of a good of", x.fault(), NONE);
        model(x, "(a");
        due("fault() of model", x.fault(), 2);
        model(x, "a");
        due("fault() of a good model", x.fault(), NONE);
    }

    private static void promise05Turn() {
        LightClassifier x = with("a<b;b<c;");
        due("turn off", x.turn(1), 0);
        due("told(1)", x.told(1), 1);
        due("a below c without it", x.below(part(x, 'a'), part(x, 'c')), false);
        due("parts of an AXIOM that is OFF stay", x.told(4), 5);
        due("turn on", x.turn(1), 1);
        due("a below c with it", x.below(part(x, 'a'), part(x, 'c')), true);
        noSuch("turn(2)", () -> x.turn(2));
        noSuch("turn(-1)", () -> x.turn(-1));
        due("what can be taken back", x.told(10), 2);
    }

    private static void promise06Undo() {
        LightClassifier x = with("a<b;b<c;c<d;");
        due("undo of nothing", x.undo(), NONE);
        x.turn(0);
        x.turn(1);
        x.turn(0);
        due("undo", x.undo(), 2);
        due("0 is OFF again", x.axiom(0, 1), 0);
        due("undo", x.undo(), 1);
        due("1 is ON again", x.axiom(1, 1), 1);
        due("undo", x.undo(), 0);
        due("all ON", x.told(1), 3);
        due("undo of no more", x.undo(), NONE);
        for (int k = 0; k < 23; k++) {
            x.turn(k % 3);
        }
        due("only 20 can be taken back", x.told(10), 20);
        for (int k = 19; k >= 0; k--) {
            due("undo", x.undo(), k);
        }
        due("undo behind 20", x.undo(), NONE);
        due("the first three stay", x.told(1), 0);
        tell(x, "a<");
        due("a text with a fault keeps it", x.told(10), 0);
    }

    private static void promise07Told() {
        LightClassifier x = with("a<some r b;some s b<c;r<<s;c&b<nothing;d<c&b;");
        feed(x, "x");
        x.turn(4);
        x.turn(4);
        int[] want = {5, 5, 4, 2, 9, 4, 5, 3, 1, 20, 2, 30};
        for (int k = 0; k < want.length; k++) {
            due("told(" + k + ")", x.told(k), want[k]);
        }
        wrongArgument("told(12)", () -> x.told(12));
        wrongArgument("told(-1)", () -> x.told(-1));
    }

    private static void promise08Axiom() {
        LightClassifier x = with("a<b;c=a;r<<s;r*t<<s;");
        int[][] want = {{0, 1, 2, 3, NONE}, {1, 1, 4, 2, NONE}, {2, 0, 0, 1, NONE}, {3, 1, 0, 2, 1}};
        x.turn(2);
        for (int k = 0; k < 4; k++) {
            for (int what = 0; what < 5; what++) {
                due("axiom(" + k + ", " + what + ")", x.axiom(k, what), want[k][what]);
            }
        }
        wrongArgument("axiom(0, 5)", () -> x.axiom(0, 5));
        wrongArgument("axiom(0, -1)", () -> x.axiom(0, -1));
        noSuch("axiom(4, 9)", () -> x.axiom(4, 9));
        noSuch("axiom(-1, 0)", () -> x.axiom(-1, 0));
    }

    private static void promise09Part() {
        LightClassifier x = with("a&b&a<some r(b&a);some r(b&a)=nothing;(top)<a;");
        int[][] want = {{1, NONE, NONE}, {2, NONE, NONE}, {0, 0, NONE}, {0, 1, NONE}, {3, 2, 3}, {3, 4, 2}, {3, 3, 2}, {4, 0, 6}};
        due("parts", x.told(4), want.length);
        for (int k = 0; k < want.length; k++) {
            for (int what = 0; what < 3; what++) {
                due("part(" + k + ", " + what + ")", x.part(k, what), want[k][what]);
            }
        }
        due("TOP told", x.axiom(2, 2), 0);
        due("NOTHING told", x.axiom(1, 3), 1);
        wrongArgument("part(0, 3)", () -> x.part(0, 3));
        wrongArgument("part(0, -1)", () -> x.part(0, -1));
        noSuch("part(8, 3)", () -> x.part(8, 3));
        noSuch("part(-1, 0)", () -> x.part(-1, 0));
    }

    private static void promise10Letter() {
        LightClassifier x = with("abcdef<z;r<<roles;");
        for (int i = 0; i < 6; i++) {
            due("letter " + i, x.letter(0, 0, i), 'a' + i);
        }
        for (int i = 0; i < 5; i++) {
            due("letter " + i + " of a role", x.letter(1, 1, i), "roles".charAt(i));
        }
        due("letter of z", x.letter(0, 1, 0), 'z');
        noSuch("letter 6", () -> x.letter(0, 0, 6));
        noSuch("letter 1 of z", () -> x.letter(0, 1, 1));
        noSuch("letter -1", () -> x.letter(0, 0, -1));
        noSuch("letter of no name", () -> x.letter(0, 2, 0));
        noSuch("letter of no role", () -> x.letter(1, -1, 0));
        noSuch("letter of kind 2", () -> x.letter(2, 0, 0));
        noSuch("letter of kind -1", () -> x.letter(-1, 0, 0));
        due("all were counted", x.status(0), 7);
    }

    private static void promise11Named() {
        LightClassifier x = with("some r a<b&c;");
        due("named(0)", x.named(0), 2);
        due("named(1)", x.named(1), 4);
        due("named(2)", x.named(2), 5);
        noSuch("named(3)", () -> x.named(3));
        noSuch("named(-1)", () -> x.named(-1));
    }

    private static void promise12Below() {
        LightClassifier x = with("a<b;c=a;v<nothing;");
        due("a below b", x.below(part(x, 'a'), part(x, 'b')), true);
        due("c below b", x.below(part(x, 'c'), part(x, 'b')), true);
        due("a below c", x.below(part(x, 'a'), part(x, 'c')), true);
        due("b below a", x.below(part(x, 'b'), part(x, 'a')), false);
        due("a below TOP", x.below(part(x, 'a'), 0), true);
        due("NOTHING below a", x.below(1, part(x, 'a')), true);
        due("what is VOID below a", x.below(part(x, 'v'), part(x, 'a')), true);
        due("TOP below a", x.below(0, part(x, 'a')), false);
        noSuch("below(6, 0)", () -> x.below(6, 0) ? 1 : 0);
        noSuch("below(0, 6)", () -> x.below(0, 6) ? 1 : 0);
        noSuch("below(-1, 0)", () -> x.below(-1, 0) ? 1 : 0);
    }

    private static void promise13When() {
        LightClassifier x = with("a<b;b<c&d;d<nothing;e<some r a;some r top<f;");
        int a = part(x, 'a');
        int e = part(x, 'e');
        due("when a is in a", x.when(a, a), 0);
        due("when b", x.when(a, part(x, 'b')), 1);
        due("when d", x.when(a, part(x, 'd')), 3);
        due("when NOTHING", x.when(a, 1), 4);
        due("when, by NOTHING", x.when(a, e), 4);
        due("when SOME r TOP is in e", x.when(e, x.axiom(4, 2)), 3);
        due("when f is in e", x.when(e, part(x, 'f')), 4);
        due("when NOTHING is in e", x.when(e, 1), 5);
        due("when f is in a, by NOTHING", x.when(a, part(x, 'f')), 4);
        due("when never", x.when(part(x, 'f'), a), NONE);
        noSuch("when(-1, 0)", () -> x.when(-1, 0));
        noSuch("when(0, 99)", () -> x.when(0, 99));
        LightClassifier y = with("a<some r b;b<some s c;q<<r;r*s<<t;some t c<d;");
        due("when by a CHAIN", y.when(part(y, 'a'), part(y, 'd')), 5);
    }

    private static void promise14Why() {
        LightClassifier x = with("b=a;a<b;a<c&d;e<some r f;f<g;some s g<h;r<<s;c&d<i;some r j<j;j<nothing;k<some r f&some r j;");
        int a = part(x, 'a');
        int e = part(x, 'e');
        int k = part(x, 'k');
        int both = x.axiom(2, 3);
        int some = x.axiom(5, 2);
        due("why a in a", x.why(a, a, 0), 0);
        due("why a in a, by", x.why(a, a, 1), NONE);
        due("why TOP in a", x.why(a, 0, 0), 0);
        due("why b in a", x.why(a, part(x, 'b'), 0), 1);
        due("why b in a, the least AXIOM", x.why(a, part(x, 'b'), 1), 0);
        due("why c in a", x.why(a, part(x, 'c'), 0), 2);
        due("why c in a, the AND", x.why(a, part(x, 'c'), 1), both);
        due("why SOME s g in e", x.why(e, some, 0), 4);
        due("why SOME s g in e, the PART", x.why(e, some, 1), part(x, 'f'));
        due("why h in e", x.why(e, part(x, 'h'), 0), 1);
        due("why h in e, the AXIOM", x.why(e, part(x, 'h'), 1), 5);
        due("why NOTHING in k, by two rules", x.why(k, 1, 0), 1);
        due("why NOTHING in k, the AXIOM", x.why(k, 1, 1), 9);
        due("why e in a", x.why(a, e, 0), NONE);
        due("why e in a, by", x.why(a, e, 1), NONE);
        due("why e in j, below it by NOTHING alone", x.why(part(x, 'j'), e, 0), NONE);
        LightClassifier y = with("a<b;a<c;b&c<d;");
        int and = y.axiom(2, 2);
        due("why AND in a", y.why(part(y, 'a'), and, 0), 3);
        due("why AND in a, by", y.why(part(y, 'a'), and, 1), NONE);
        LightClassifier z = with("j<nothing;i<nothing;k<some r i&some r j;");
        due("why NOTHING in k, by a LINK", z.why(part(z, 'k'), 1, 0), 5);
        due("why NOTHING in k, the least PART", z.why(part(z, 'k'), 1, 1), part(z, 'j'));
        wrongArgument("why(0, 0, 2)", () -> x.why(0, 0, 2));
        wrongArgument("why(0, 0, -1)", () -> x.why(0, 0, -1));
        noSuch("why(99, 0, 2)", () -> x.why(99, 0, 2));
        noSuch("why(0, -1, 0)", () -> x.why(0, -1, 0));
    }

    private static void promise15Link() {
        LightClassifier x = with("a<some r b;b<some s c;q<<r;r<<t;t*s<<u;");
        int a = part(x, 'a');
        int b = part(x, 'b');
        int c = part(x, 'c');
        due("a r b", x.link(a, 0, b), true);
        due("b s c", x.link(b, 1, c), true);
        due("a t b is none, r is only UNDER t", x.link(a, 3, b), false);
        due("a u c by the CHAIN", x.link(a, 4, c), true);
        due("b r a", x.link(b, 0, a), false);
        x.turn(3);
        due("a u c, r not UNDER t", x.link(a, 4, c), false);
        noSuch("link(99, 0, 0)", () -> x.link(99, 0, 0) ? 1 : 0);
        noSuch("link(0, 5, 0)", () -> x.link(0, 5, 0) ? 1 : 0);
        noSuch("link(0, -1, 0)", () -> x.link(0, -1, 0) ? 1 : 0);
        noSuch("link(0, 0, -1)", () -> x.link(0, 0, -1) ? 1 : 0);
    }

    private static void promise16Under() {
        LightClassifier x = with("s<<t;r<<s;t<<u;v<<r;");
        due("under s", x.under(0), 1 | 2 | 8);
        due("under t", x.under(1), 2 | 8);
        due("under r", x.under(2), 1 | 2 | 4 | 8);
        due("under v", x.under(4), 31);
        x.turn(0);
        due("under r with s below t OFF", x.under(2), 1 | 4);
        noSuch("under(5)", () -> x.under(5));
        noSuch("under(-1)", () -> x.under(-1));
    }

    private static void promise17Node() {
        LightClassifier x = with("v<nothing;b<c;c<b;d<e;top<t;e<t;");
        due("node of what is VOID", x.node(name(x, 'v')), NONE);
        due("node of b", x.node(name(x, 'b')), 0);
        due("node of c", x.node(name(x, 'c')), 0);
        due("node of d", x.node(name(x, 'd')), 1);
        due("node of e", x.node(name(x, 'e')), 2);
        due("node of t", x.node(name(x, 't')), -2);
        noSuch("node(-1)", () -> x.node(-1));
        noSuch("node(6)", () -> x.node(6));
        LightClassifier y = with("top<nothing;top<a;");
        due("all is VOID", y.node(0), NONE);
        due("no nodes", y.told(7), 0);
    }

    private static void promise18NodeOf() {
        LightClassifier x = with("a<b;b<d;a<c;c<d;a<d;e=d;a<f;f<b;top<t;");
        // The nodes: 0 a, 1 b, 2 d and e, 3 c, 4 f.
        int[][] want = {{1, 8 | 16, 0, 2 | 4 | 8 | 16, 0, 4}, {2, 4, 16, 4, 1 | 16, 2}, {4 | 16, 0, 2 | 8, 0, 1 | 2 | 8 | 16, 1},
            {8, 4, 1, 4, 1, 2}, {32, 2, 1, 2 | 4, 1, 3}};
        due("nodes", x.told(7), want.length);
        for (int k = 0; k < want.length; k++) {
            for (int what = 0; what < 6; what++) {
                due("nodeOf(" + k + ", " + what + ")", x.nodeOf(k, what), want[k][what]);
            }
        }
        LightClassifier y = with("b<c;a<b;");
        due("NODE 0 is between", y.nodeOf(y.node(name(y, 'a')), 1), 1);
        noSuch("nodeOf(5, 0)", () -> x.nodeOf(5, 0));
        noSuch("nodeOf(-1, 9)", () -> x.nodeOf(-1, 9));
        noSuch("nodeOf(-2, 0)", () -> x.nodeOf(-2, 0));
        wrongArgument("nodeOf(0, 6)", () -> x.nodeOf(0, 6));
        wrongArgument("nodeOf(0, -1)", () -> x.nodeOf(0, -1));
    }

    private static void promise19Nothing() {
        LightClassifier x = with("a<b;c<some r d;d<e&f;e&f<nothing;");
        due("nothing()", x.nothing(), 4 | 8);
        x.turn(3);
        due("nothing() without the last", x.nothing(), 0);
    }

    private static void promise20Common() {
        LightClassifier x = with("a<c;a<d;b<c;b<d;c<e;d<e;v<nothing;top<t;g<f;");
        int a = name(x, 'a');
        int b = name(x, 'b');
        due("common of a, b", x.common(a, b), 1 << x.node(name(x, 'c')) | 1 << x.node(name(x, 'd')));
        due("common of a, a", x.common(a, a), 1 << x.node(a));
        due("common of a, e", x.common(a, name(x, 'e')), 1 << x.node(name(x, 'e')));
        due("common of a, g", x.common(a, name(x, 'g')), 0);
        due("common of a, t", x.common(a, name(x, 't')), 0);
        wrongState("common with what is VOID", () -> x.common(a, name(x, 'v')));
        wrongState("common of what is VOID", () -> x.common(name(x, 'v'), a));
        noSuch("common of what is VOID and none", () -> x.common(name(x, 'v'), 99));
        noSuch("common(-1, 0)", () -> x.common(-1, 0));
        due("status(2)", x.status(2), 2);
    }

    private static void promise21Needed() {
        LightClassifier x = with("a<b;b<c;a<d;d<c;c<e;v<nothing;");
        int a = name(x, 'a');
        int e = name(x, 'e');
        due("needed", x.needed(a, e), 16);
        x.turn(0);
        due("needed with one OFF", x.needed(a, e), 4 | 8 | 16);
        due("needed, not below", x.needed(e, a), 0);
        due("needed for itself", x.needed(a, a), 0);
        due("needed by VOID", x.needed(name(x, 'v'), a), 32);
        noSuch("needed(0, 6)", () -> x.needed(0, 6));
        noSuch("needed(-1, 0)", () -> x.needed(-1, 0));
        LightClassifier y = with("a<a;".repeat(31) + "a<b;");
        due("needed, the last AXIOM", y.needed(0, 1), 1L << 31);
    }

    private static void promise22Enough() {
        LightClassifier x = with("a<b;b<c;a<d;d<c;c<e;");
        int a = name(x, 'a');
        int e = name(x, 'e');
        due("enough", x.enough(a, e), 4 | 8 | 16);
        x.turn(3);
        due("enough with one OFF", x.enough(a, e), 1 | 2 | 16);
        due("enough for itself", x.enough(a, a), 0);
        due("enough, not below", x.enough(e, a), NONE);
        noSuch("enough(0, 5)", () -> x.enough(0, 5));
        noSuch("enough(-1, 0)", () -> x.enough(-1, 0));
    }

    private static void promise23Reason() {
        LightClassifier x = with("a<b;a<c;b<z;c<z;a<d;d<z;a<e;e<z;a<f;");
        int a = name(x, 'a');
        int z = name(x, 'z');
        due("four reasons", x.reason(a, z, NONE), 4);
        long[] want = {1 | 4, 2 | 8, 16 | 32, 64 | 128};
        for (int k = 0; k < 4; k++) {
            due("reason " + k, x.reason(a, z, k), want[k]);
        }
        due("no fifth one", x.reason(a, z, 4), NONE);
        due("k below NONE", x.reason(a, z, -2), NONE);
        x.turn(2);
        due("three reasons", x.reason(a, z, NONE), 3);
        due("the first of three", x.reason(a, z, 0), 2 | 8);
        due("not below", x.reason(z, a, NONE), 0);
        due("not below, the first", x.reason(z, a, 0), NONE);
        due("itself", x.reason(a, a, NONE), 1);
        due("itself, the first", x.reason(a, a, 0), 0);
        noSuch("reason(-1, 0, 0)", () -> x.reason(-1, 0, 0));
        noSuch("reason(0, 7, 0)", () -> x.reason(0, 7, 0));
        LightClassifier y = with("a<b;a<c;b<z;c<z;a<d;d<z;a<e;e<z;a<f;f<z;");
        due("too many", y.reason(0, name(y, 'z'), NONE), -3);
        due("too many, the first", y.reason(0, name(y, 'z'), 0), NONE);
        LightClassifier w = with("a<b;b<c;c<z;a<c;b<z;");
        due("reasons that share AXIOMS", w.reason(0, name(w, 'z'), NONE), 3);
        due("their order", w.reason(0, name(w, 'z'), 0), 1 | 2 | 4);
        due("their order", w.reason(0, name(w, 'z'), 1), 4 | 8);
        due("their order", w.reason(0, name(w, 'z'), 2), 1 | 16);
        // The one in the middle is met only by leaving out AXIOM 0 and AXIOM 4.
        LightClassifier v = with("a<m;m<z;a<a;a<m&n;n<z;");
        due("reasons in a row", v.reason(0, name(v, 'z'), NONE), 3);
        due("reasons in a row", v.reason(0, name(v, 'z'), 0), 1 | 2);
        due("reasons in a row", v.reason(0, name(v, 'z'), 1), 2 | 8);
        due("reasons in a row", v.reason(0, name(v, 'z'), 2), 8 | 16);
    }

    private static void promise24Repair() {
        LightClassifier x = with("a<b;b<c;c<z;a<c;b<z;z<y;");
        int z = name(x, 'z');
        due("repair", x.repair(0, z), 1 | 4);
        due("repair by one", x.repair(0, name(x, 'y')), 32);
        due("itself", x.repair(0, 0), -2);
        due("not below", x.repair(z, 0), NONE);
        LightClassifier y = with("a<b;a<c;b<z;c<z;a<d;d<z;a<e;e<z;a<f;f<z;");
        due("too many", y.repair(0, name(y, 'z')), -3);
        y.turn(9);
        due("four", y.repair(0, name(y, 'z')), 1 | 2 | 16 | 64);
        noSuch("repair(-1, 0)", () -> x.repair(-1, 0));
        noSuch("repair(0, 5)", () -> x.repair(0, 5));
    }

    private static void promise25Likeness() {
        LightClassifier x = with("a<c;b<c;c<d;v<nothing;e<e;");
        int a = name(x, 'a');
        int b = name(x, 'b');
        due("upper of a, b: 2 by 4", x.likeness(a, b, 0), 1);
        due("lower of a, b: 2 by 4", x.likeness(a, b, 1), 2);
        due("upper of a, c: 2 by 3", x.likeness(a, name(x, 'c'), 0), 2);
        due("lower of a, c: 2 by 3", x.likeness(a, name(x, 'c'), 1), 3);
        due("upper of a, a", x.likeness(a, a, 0), 1);
        due("lower of a, a", x.likeness(a, a, 1), 1);
        due("upper of a, e", x.likeness(a, name(x, 'e'), 0), 0);
        due("lower of a, e", x.likeness(a, name(x, 'e'), 1), 1);
        due("upper of v, a: 3 by 6", x.likeness(name(x, 'v'), a, 0), 1);
        due("lower of v, a: 3 by 6", x.likeness(name(x, 'v'), a, 1), 2);
        wrongArgument("likeness(0, 0, 2)", () -> x.likeness(0, 0, 2));
        wrongArgument("likeness(0, 0, -1)", () -> x.likeness(0, 0, -1));
        noSuch("likeness(0, 6, 2)", () -> x.likeness(0, 6, 2));
        noSuch("likeness(-1, 0, 0)", () -> x.likeness(-1, 0, 0));
    }

    private static void promise26Atom() {
        LightClassifier x = with("a<b;b<a;c<d;d<top;e<top;a<c;");
        due("atom of 0", x.atom(0), 0);
        due("atom of 1", x.atom(1), 0);
        due("atom of 2", x.atom(2), 2);
        due("atom of what is in no module", x.atom(4), 3);
        due("atom of 5", x.atom(5), 0);
        x.turn(0);
        due("atom of one that is OFF", x.atom(0), NONE);
        due("atom of 1 then", x.atom(1), 1);
        noSuch("atom(6)", () -> x.atom(6));
        noSuch("atom(-1)", () -> x.atom(-1));
    }

    private static void promise27Depends() {
        LightClassifier x = with("a<b;b<c;c<top;r<<s;b<some r c;some s c<d;");
        due("depends of 0", x.depends(0), 1 | 2 | 8 | 16 | 32);
        due("depends of 1", x.depends(1), 2 | 8 | 16 | 32);
        due("depends of one not in its own module", x.depends(2), 0);
        due("depends of a ROLE", x.depends(3), 8);
        x.turn(4);
        due("depends with one OFF", x.depends(0), 1 | 2);
        due("depends of one that is OFF", x.depends(4), 0);
        noSuch("depends(6)", () -> x.depends(6));
        noSuch("depends(-1)", () -> x.depends(-1));
    }

    private static void promise28Module() {
        LightClassifier x = with("a<b;b<c;d<c;b=some r e;r<<s;r*s<<t;c<nothing;top<f;some t g<h;");
        due("from below for a", x.module(1, 0, 0), 1 | 2 | 8 | 16 | 32 | 64 | 128);
        due("from below for none", x.module(0, 0, 0), 128);
        due("from below for e and no ROLE", x.module(16, 0, 0), 128);
        due("from below for e and r", x.module(16, 1, 0), 2 | 8 | 16 | 32 | 64 | 128);
        due("from above for none", x.module(0, 0, 1), 1 | 2 | 4 | 8 | 64);
        due("from above for t", x.module(0, 4, 1), 1 | 2 | 4 | 8 | 16 | 32 | 64);
        due("from above for f", x.module(32, 0, 1), 1 | 2 | 4 | 8 | 64 | 128);
        due("in turn for a", x.module(1, 0, 2), 1 | 2 | 8 | 64);
        due("in turn for none", x.module(0, 0, 2), 0);
        x.turn(6);
        due("from above for none with one OFF", x.module(0, 0, 1), 0);
        due("from above for c with one OFF", x.module(4, 0, 1), 1 | 2 | 4 | 8);
        wrongArgument("way 3", () -> x.module(0, 0, 3));
        wrongArgument("way -1", () -> x.module(0, 0, -1));
        wrongArgument("no such NAME", () -> x.module(256, 0, 0));
        wrongArgument("no such ROLE", () -> x.module(0, 8, 0));
        wrongArgument("the highest bit", () -> x.module(Integer.MIN_VALUE, 0, 0));
        due("all NAMES and ROLES", x.module(255, 7, 0), 511 - 64);
    }

    private static void promise29Ask() {
        LightClassifier x = with("a<some r b;b<c;some s c<d;r<<s;e<nothing;");
        long before = x.print();
        due("a < d", ask(x, "a<d"), 1);
        due("d < a", ask(x, "d<a"), 0);
        due("a < some s (b & c)", ask(x, " a < some s (b & c) "), 1);
        due("some r b & e < a", ask(x, "some r b&e<a"), 1);
        due("some s e < nothing", ask(x, "some s e<nothing"), 1);
        due("top < a", ask(x, "top<a"), 0);
        due("fault", x.fault(), NONE);
        due("nothing stays changed", x.print(), before);
        due("parts stay", x.told(4), 9);
        String[] faulty = {"", "a", "a<", "a<b;", "a=b", "a<<b", "r<<s", "a<b<c", "a<abcdefg", "a<x", "x<b", "some t a<b", "some a a<b",
            "some x y<b", "(((((((a)))))))<b", "(((((((x", "a<b x", "nothings<a", "abcdefg*"};
        int[] kinds = {1, 1, 1, 1, 1, 1, 6, 1, 2, 6, 6, 6, 6, 6, 4, 4, 1, 2, 2};
        int[] places = {0, 1, 2, 3, 1, 1, 0, 3, 2, 2, 0, 5, 5, 5, 6, 6, 4, 0, 0};
        for (int k = 0; k < faulty.length; k++) {
            due("ask of " + faulty[k], ask(x, faulty[k]), kinds[k] - 10);
            due("fault() of " + faulty[k], x.fault(), places[k]);
            due("the tape is empty", x.told(9), 0);
        }
        due("parts stay", x.told(4), 9);
        due("51 PARTS more", ask(x, "some r ".repeat(51) + "d<d"), 0);
        due("52 PARTS more", ask(x, " " + "some r ".repeat(52) + "d<d"), 5 - 10);
        due("fault() at 0", x.fault(), 0);
        due("52 PARTS more and an unknown word", ask(x, "some r ".repeat(52) + "d<x"), 6 - 10);
        due("parts stay", x.told(4), 9);
        feed(x, "a<d");
        wrongArgument("ask(-1)", () -> x.ask(-1));
        wrongArgument("ask(21)", () -> x.ask(21));
        due("the tape stays", x.told(9), 20);
        LightClassifier y = with("a<a;".repeat(32));
        due("ask beside 32 AXIOMS", ask(y, "a<a"), 1);
        y.turn(0);
        due("AXIOMS that are OFF tell words, too", ask(y, "a<top"), 1);
    }

    private static void promise30Of() {
        LightClassifier x = with("a<some r b;b<c;some s c<d;r<<s;e<nothing;top<t;");
        int a = 1 << name(x, 'a');
        int d = 1 << name(x, 'd');
        int e = 1 << name(x, 'e');
        int t = 1 << name(x, 't');
        due("names below some s c", of(x, 0, "some s c"), a | e);
        due("names below top", of(x, 0, "top"), 63);
        due("names below nothing", of(x, 0, "nothing"), e);
        due("names above some r b", of(x, 1, "some r b"), d | t);
        due("names above some r e", of(x, 1, "some r e"), 63);
        due("some r (b & e) is VOID", of(x, 2, "some r (b & e)"), 1);
        due("some r b is not", of(x, 2, "some r b"), 0);
        due("fault", x.fault(), NONE);
        due("a < b is no CONCEPT", of(x, 0, "a<b"), 1 - 10);
        due("its place", x.fault(), 1);
        due("an unknown word", of(x, 1, "some r x"), 6 - 10);
        due("its place", x.fault(), 7);
        due("too many PARTS", of(x, 2, "a&".repeat(57) + "a"), 5 - 10);
        due("its place", x.fault(), 0);
        due("the tape is empty", x.told(9), 0);
        feed(x, "a");
        wrongArgument("of(3, 1)", () -> x.of(3, 1));
        wrongArgument("of(-1, 1)", () -> x.of(-1, 1));
        wrongArgument("of(0, -1)", () -> x.of(0, -1));
        wrongArgument("of(0, 21)", () -> x.of(0, 21));
        due("the tape stays", x.told(9), 20);
        due("status(1)", x.status(1), 4);
    }

    private static void promise31Model() {
        LightClassifier x = with("a<some r b;b<c;r<<s;e<nothing;");
        long a = 1L << part(x, 'a');
        long b = 1L << part(x, 'b');
        long c = 1L << part(x, 'c');
        long some = 1L << x.axiom(0, 3);
        due("all but the VOID ones", model(x, "top"), 1 | a | b | c | some);
        due("none", model(x, "nothing"), 0);
        due("c", model(x, "c"), b | c);
        due("some s c", model(x, "some s c"), a | some);
        due("some r top & a", model(x, "some r top & a"), a);
        due("some s some s top", model(x, "some s some s top"), 0);
        due("parts stay", x.told(4), 7);
        due("a fault", model(x, "a<b"), 1 - 10);
        due("its place", x.fault(), 1);
        due("an unknown word", model(x, "zz"), 6 - 10);
        due("too many PARTS", model(x, "a&".repeat(54) + "a"), 5 - 10);
        wrongArgument("model(-1)", () -> x.model(-1));
        wrongArgument("model(1)", () -> x.model(1));
        LightClassifier y = with("a&".repeat(57) + "a<a;");
        due("a PART of number 59", model(y, "a&a"), (1L << 60) - 1 - 3);
    }

    private static void promise32Print() {
        LightClassifier x = with("a<some r b;");
        // TOP 1 0, NOTHING 2 0, a 3 1, b 2 0, SOME 2 1.
        int[] want = {1, 0, 2, 0, 3, 1, 2, 0, 2, 1};
        long sum = 0;
        for (int k = 0; k < want.length; k++) {
            sum = sum * 31 + want[k];
        }
        due("print()", x.print(), sum);
        due("print() again", x.print(), sum);
    }

    private static void promise33Status() {
        LightClassifier x = with("v<nothing;");
        noSuch("turn(9)", () -> x.turn(9));
        noSuch("axiom(9, 9)", () -> x.axiom(9, 9));
        wrongArgument("told(99)", () -> x.told(99));
        wrongState("common(0, 0)", () -> x.common(0, 0));
        tell(x, "a<");
        x.undo();
        due("status(0)", x.status(0), 2);
        due("status(1)", x.status(1), 1);
        due("status(2)", x.status(2), 1);
        due("status(3)", x.status(3), NONE);
        due("status(-1)", x.status(-1), NONE);
        due("status(-1) is not refused", x.status(1), 1);
    }

    public static void main(String[] args) {
        promise01NewObject();
        promise02Feed();
        promise03Text();
        promise04Fault();
        promise05Turn();
        promise06Undo();
        promise07Told();
        promise08Axiom();
        promise09Part();
        promise10Letter();
        promise11Named();
        promise12Below();
        promise13When();
        promise14Why();
        promise15Link();
        promise16Under();
        promise17Node();
        promise18NodeOf();
        promise19Nothing();
        promise20Common();
        promise21Needed();
        promise22Enough();
        promise23Reason();
        promise24Repair();
        promise25Likeness();
        promise26Atom();
        promise27Depends();
        promise28Module();
        promise29Ask();
        promise30Of();
        promise31Model();
        promise32Print();
        promise33Status();
        end();
    }
}
