import java.util.ArrayList;
import java.util.Arrays;
import java.util.List;
import java.util.NoSuchElementException;
import java.util.Random;
import java.util.TreeSet;

/**
 * Random runs on LightClassifier beside a second reading of the document, written as plainly as
 * possible (sets of facts, all subsets tried), with the same answers due from both.
 */
public final class NaiveModelTest {
    static final int NONE = -1;
    static int wrong = 0;
    static long compared = 0;

    static final class Fault extends Exception {
        private static final long serialVersionUID = 1L;
        final int kind;
        final int place;
        Fault(int kind, int place) { super(null, null, false, false); this.kind = kind; this.place = place; }
    }

    static final class Part {
        final int kind, a, b;
        Part(int kind, int a, int b) { this.kind = kind; this.a = a; this.b = b; }
        boolean like(Part o) { return kind == o.kind && a == o.a && b == o.b; }
    }

    static final class Axiom {
        int kind, a, b, c = NONE;
        boolean on = true;
    }

    /** A concept as it is read, ahead of its PARTS. */
    static final class Tree {
        final int kind, number;
        final Tree one, two;
        Tree(int kind, int number, Tree one, Tree two) { this.kind = kind; this.number = number; this.one = one; this.two = two; }
    }

    static final class Token {
        final String text;
        final int place;
        Token(String text, int place) { this.text = text; this.place = place; }
        boolean letters() { return !text.isEmpty() && Character.isLowerCase(text.charAt(0)) && text.charAt(0) < 128; }
        boolean keyword() { return text.equals("top") || text.equals("nothing") || text.equals("some"); }
        boolean word() { return letters() && !keyword(); }
        boolean is(String s) { return text.equals(s); }
    }

    static final class Onto {
        final List<String> names = new ArrayList<>();
        final List<String> roles = new ArrayList<>();
        final List<Part> parts = new ArrayList<>();
        final List<Axiom> axioms = new ArrayList<>();
        Onto() { parts.add(new Part(1, NONE, NONE)); parts.add(new Part(2, NONE, NONE)); }

        int intern(Tree t) {
            int a = NONE, b = NONE;
            if (t.kind == 0) { a = t.number; }
            if (t.kind == 3) { a = intern(t.one); b = intern(t.two); }
            if (t.kind == 4) { a = t.number; b = intern(t.one); }
            Part p = new Part(t.kind, a, b);
            for (int i = 0; i < parts.size(); i++) { if (parts.get(i).like(p)) { return i; } }
            parts.add(p);
            return parts.size() - 1;
        }

        long on() { long m = 0; for (int i = 0; i < axioms.size(); i++) { if (axioms.get(i).on) { m |= 1L << i; } } return m; }
        int partOf(int name) { for (int i = 0; i < parts.size(); i++) { if (parts.get(i).kind == 0 && parts.get(i).a == name) { return i; } } return NONE; }
    }

    static final class Parser {
        final List<Token> tokens = new ArrayList<>();
        int i = 0;
        final Onto onto;
        final boolean asking;

        Parser(String s, Onto onto, boolean asking) {
            this.onto = onto;
            this.asking = asking;
            int p = 0;
            while (p < s.length()) {
                char c = s.charAt(p);
                if (c == ' ') { p++; continue; }
                int q = p;
                while (q < s.length() && s.charAt(q) >= 'a' && s.charAt(q) <= 'z') { q++; }
                if (q == p) { q = s.startsWith("<<", p) ? p + 2 : p + 1; }
                tokens.add(new Token(s.substring(p, q), p));
                p = q;
            }
            tokens.add(new Token("", s.length()));
        }

        Token peek() { return tokens.get(i); }
        Token take() { return tokens.get(i++); }
        void need(String s) throws Fault { if (!peek().is(s)) { throw new Fault(1, peek().place); } i++; }

        int word(List<String> list, int most) throws Fault {
            Token t = peek();
            if (!t.word()) { throw new Fault(1, t.place); }
            if (t.text.length() > 6) { throw new Fault(2, t.place); }
            int k = list.indexOf(t.text);
            if (k < 0 && asking) { throw new Fault(6, t.place); }
            if (k < 0) {
                if (list.size() == most) { throw new Fault(3, t.place); }
                list.add(t.text);
                k = list.size() - 1;
            }
            i++;
            return k;
        }

        Tree atom(int depth) throws Fault {
            Token t = peek();
            if (t.is("top")) { i++; return new Tree(1, NONE, null, null); }
            if (t.is("nothing")) { i++; return new Tree(2, NONE, null, null); }
            if (t.is("some")) { i++; int r = word(onto.roles, 8); Tree in = atom(depth); return new Tree(4, r, in, null); }
            if (t.is("(")) {
                if (depth == 6) { throw new Fault(4, t.place); }
                i++;
                Tree in = concept(depth + 1);
                need(")");
                return in;
            }
            return new Tree(0, word(onto.names, 24), null, null);
        }

        Tree concept(int depth) throws Fault {
            Tree all = atom(depth);
            while (peek().is("&")) { i++; all = new Tree(3, NONE, all, atom(depth)); }
            return all;
        }

        void all() throws Fault {
            while (!peek().is("")) {
                Token t = peek();
                if (!t.letters() && !t.is("(")) { throw new Fault(1, t.place); }
                if (t.word() && t.text.length() > 6) { throw new Fault(2, t.place); }
                if (onto.axioms.size() == 32) { throw new Fault(3, t.place); }
                Axiom x = new Axiom();
                String next = tokens.get(i + 1).text;
                if (t.word() && (next.equals("*") || next.equals("<<"))) {
                    x.a = word(onto.roles, 8);
                    if (peek().is("*")) {
                        i++;
                        x.kind = 3;
                        x.b = word(onto.roles, 8);
                        need("<<");
                        x.c = word(onto.roles, 8);
                    } else {
                        need("<<");
                        x.kind = 2;
                        x.b = word(onto.roles, 8);
                    }
                    need(";");
                } else {
                    Tree c = concept(0);
                    if (peek().is("=")) { x.kind = 1; i++; } else { need("<"); }
                    Tree d = concept(0);
                    need(";");
                    x.a = onto.intern(c);
                    x.b = onto.intern(d);
                    if (onto.parts.size() > 60) { throw new Fault(5, t.place); }
                }
                onto.axioms.add(x);
            }
        }
    }

    /** All facts with the ROUND in which they came (NONE: never). */
    static final class Facts {
        final Onto o;
        final long on;
        final int n, m;
        final int[][] up;
        final int[][][] link;
        final boolean[][] under;
        int rounds = 0;

        boolean isOn(int k) { return (on >>> k & 1) != 0; }

        Facts(Onto o, long on) {
            this.o = o;
            this.on = on;
            n = o.parts.size();
            m = o.roles.size();
            up = new int[n][n];
            link = new int[n][m][n];
            under = new boolean[m][m];
            for (int[] row : up) { Arrays.fill(row, NONE); }
            for (int[][] rows : link) { for (int[] row : rows) { Arrays.fill(row, NONE); } }
            for (int x = 0; x < n; x++) { up[x][x] = 0; up[x][0] = 0; }
            for (int r = 0; r < m; r++) { reach(r, r); }
            while (round(rounds + 1)) { rounds++; }
        }

        void reach(int from, int r) {
            if (under[from][r]) { return; }
            under[from][r] = true;
            for (int k = 0; k < o.axioms.size(); k++) {
                Axiom a = o.axioms.get(k);
                if (isOn(k) && a.kind == 2 && a.a == r) { reach(from, a.b); }
            }
        }

        boolean had(int when, int round) { return when != NONE && when < round; }

        boolean round(int k) {
            boolean more = false;
            for (int x = 0; x < n; x++) {
                for (int y = 0; y < n; y++) {
                    if (up[x][y] == NONE && rule(x, y, k)[0] != NONE) { up[x][y] = k; more = true; }
                }
                for (int r = 0; r < m; r++) {
                    for (int y = 0; y < n; y++) {
                        if (link[x][r][y] == NONE && linkComes(x, r, y, k)) { link[x][r][y] = k; more = true; }
                    }
                }
            }
            return more;
        }

        boolean linkComes(int x, int t, int z, int k) {
            for (int p = 0; p < n; p++) {
                Part q = o.parts.get(p);
                if (q.kind == 4 && q.a == t && q.b == z && had(up[x][p], k)) { return true; }
            }
            for (int i = 0; i < o.axioms.size(); i++) {
                Axiom a = o.axioms.get(i);
                if (!isOn(i) || a.kind != 3 || a.c != t) { continue; }
                for (int y = 0; y < n; y++) {
                    for (int r = 0; r < m; r++) {
                        if (!had(link[x][r][y], k) || !under[r][a.a]) { continue; }
                        for (int s = 0; s < m; s++) { if (had(link[y][s][z], k) && under[s][a.b]) { return true; } }
                    }
                }
            }
            return false;
        }

        /** The rule and its witness by which y comes into ABOVE(x) in ROUND k. */
        int[] rule(int x, int y, int k) {
            Part q = o.parts.get(y);
            for (int i = 0; i < o.axioms.size(); i++) {
                Axiom a = o.axioms.get(i);
                if (!isOn(i) || a.kind > 1) { continue; }
                if (a.b == y && had(up[x][a.a], k)) { return new int[] {1, i}; }
                if (a.kind == 1 && a.a == y && had(up[x][a.b], k)) { return new int[] {1, i}; }
            }
            for (int p = 0; p < n; p++) {
                Part a = o.parts.get(p);
                if (a.kind == 3 && (a.a == y || a.b == y) && had(up[x][p], k)) { return new int[] {2, p}; }
            }
            if (q.kind == 3 && had(up[x][q.a], k) && had(up[x][q.b], k)) { return new int[] {3, NONE}; }
            for (int z = 0; z < n; z++) {
                for (int r = 0; r < m; r++) {
                    if (q.kind == 4 && had(link[x][r][z], k) && had(up[z][q.b], k) && under[r][q.a]) { return new int[] {4, z}; }
                }
            }
            for (int z = 0; z < n; z++) {
                for (int r = 0; r < m; r++) {
                    if (y == 1 && had(link[x][r][z], k) && had(up[z][1], k)) { return new int[] {5, z}; }
                }
            }
            return new int[] {NONE, NONE};
        }

        boolean isVoid(int x) { return up[x][1] != NONE; }
        boolean below(int x, int y) { return up[x][y] != NONE || isVoid(x); }
    }

    /** The document's calls, answered from sets. */
    static final class Naive {
        Onto o = new Onto();
        StringBuilder tape = new StringBuilder();
        int fault = NONE;
        final List<Long> back = new ArrayList<>();
        final int[] refused = new int[3];
        Facts facts = null;
        List<Facts> subsets = null;

        void changed() { facts = null; subsets = null; }
        Facts f() { if (facts == null) { facts = new Facts(o, o.on()); } return facts; }

        long call(String name, int[] v) {
            try {
                return answer(name, v);
            } catch (NoSuchElementException e) {
                refused[0]++;
                throw e;
            } catch (IllegalArgumentException e) {
                refused[1]++;
                throw e;
            } catch (IllegalStateException e) {
                refused[2]++;
                throw e;
            }
        }

        void axiomThere(int k) { if (k < 0 || k >= o.axioms.size()) { throw new NoSuchElementException(); } }
        void partThere(int k) { if (k < 0 || k >= o.parts.size()) { throw new NoSuchElementException(); } }
        void nameThere(int k) { if (k < 0 || k >= o.names.size()) { throw new NoSuchElementException(); } }
        void roleThere(int k) { if (k < 0 || k >= o.roles.size()) { throw new NoSuchElementException(); } }
        void whatUpTo(int what, int most) { if (what < 0 || what > most) { throw new IllegalArgumentException(); } }
        void bytes(int n) { if (n < 0 || n > tape.length()) { throw new IllegalArgumentException(); } }

        long answer(String name, int[] v) {
            switch (name) {
                case "feed": return feed(v);
                case "text": return text(v[0]);
                case "fault": return fault;
                case "turn": return turn(v[0]);
                case "undo": return undo();
                case "told": return told(v[0]);
                case "axiom": return axiom(v[0], v[1]);
                case "part": return part(v[0], v[1]);
                case "letter": return letter(v[0], v[1], v[2]);
                case "named": nameThere(v[0]); return o.partOf(v[0]);
                case "below": partThere(v[0]); partThere(v[1]); return f().below(v[0], v[1]) ? 1 : 0;
                case "when": partThere(v[0]); partThere(v[1]); return f().up[v[0]][v[1]] != NONE ? f().up[v[0]][v[1]] : f().up[v[0]][1];
                case "why": return why(v[0], v[1], v[2]);
                case "link": partThere(v[0]); partThere(v[2]); roleThere(v[1]); return f().link[v[0]][v[1]][v[2]] != NONE ? 1 : 0;
                case "under": roleThere(v[0]); { int bits = 0; for (int s = 0; s < o.roles.size(); s++) { if (f().under[v[0]][s]) { bits |= 1 << s; } } return bits; }
                case "node": nameThere(v[0]); return node(v[0]);
                case "nodeOf": return nodeOf(v[0], v[1]);
                case "nothing": { int bits = 0; for (int i = 0; i < o.names.size(); i++) { if (f().isVoid(o.partOf(i))) { bits |= 1 << i; } } return bits; }
                case "common": return common(v[0], v[1]);
                case "needed": return needed(v[0], v[1]);
                case "enough": return enough(v[0], v[1]);
                case "reason": return reason(v[0], v[1], v[2]);
                case "repair": return repair(v[0], v[1]);
                case "likeness": return likeness(v[0], v[1], v[2]);
                case "atom": return atom(v[0]);
                case "depends": axiomThere(v[0]); return o.axioms.get(v[0]).on ? own(v[0]) : 0;
                case "module": return module(v[0], v[1], v[2]);
                case "ask": return ask(v[0]);
                case "of": return of(v[0], v[1]);
                case "model": return model(v[0]);
                case "print": return print();
                case "status": return v[0] < 0 || v[0] > 2 ? NONE : refused[v[0]];
                default: throw new RuntimeException(name);
            }
        }

        long feed(int[] v) {
            if (tape.length() + 20 > 400) { return NONE; }
            for (int i : v) { for (int b = 3; b >= 0; b--) { tape.append((char) (i >> 8 * b & 255)); } }
            return tape.length();
        }

        String cut(int n) { bytes(n); String s = tape.substring(0, n); tape.setLength(0); return s; }

        long text(int n) {
            String s = cut(n);
            Onto fresh = new Onto();
            try {
                new Parser(s, fresh, false).all();
            } catch (Fault e) {
                fault = e.place;
                return e.kind - 10;
            }
            fault = NONE;
            o = fresh;
            back.clear();
            changed();
            return o.axioms.size();
        }

        long turn(int k) {
            axiomThere(k);
            back.add(o.on());
            if (back.size() > 20) { back.remove(0); }
            Axiom a = o.axioms.get(k);
            a.on = !a.on;
            changed();
            return a.on ? 1 : 0;
        }

        long undo() {
            if (back.isEmpty()) { return NONE; }
            long on = back.remove(back.size() - 1);
            for (int i = 0; i < o.axioms.size(); i++) { o.axioms.get(i).on = (on >>> i & 1) != 0; }
            changed();
            return back.size();
        }

        long told(int what) {
            whatUpTo(what, 11);
            int sum = 0;
            switch (what) {
                case 0: return o.axioms.size();
                case 1: return Long.bitCount(o.on());
                case 2: return o.names.size();
                case 3: return o.roles.size();
                case 4: return o.parts.size();
                case 5: return f().rounds;
                case 6: for (int[][] a : f().link) { for (int[] b : a) { for (int c : b) { if (c != NONE) { sum++; } } } } return sum;
                case 7: return nodes().size();
                case 8: return Long.bitCount(answer("nothing", new int[0]));
                case 9: return tape.length();
                case 10: return back.size();
                default: for (int[] a : f().up) { for (int b : a) { if (b != NONE) { sum++; } } } return sum;
            }
        }

        long axiom(int k, int what) {
            axiomThere(k);
            whatUpTo(what, 4);
            Axiom a = o.axioms.get(k);
            return new int[] {a.kind, a.on ? 1 : 0, a.a, a.b, a.c}[what];
        }

        long part(int k, int what) {
            partThere(k);
            whatUpTo(what, 2);
            Part p = o.parts.get(k);
            return new int[] {p.kind, p.a, p.b}[what];
        }

        long letter(int kind, int k, int i) {
            if (kind != 0 && kind != 1) { throw new NoSuchElementException(); }
            List<String> list = kind == 0 ? o.names : o.roles;
            if (k < 0 || k >= list.size() || i < 0 || i >= list.get(k).length()) { throw new NoSuchElementException(); }
            return list.get(k).charAt(i);
        }

        long why(int x, int y, int what) {
            partThere(x);
            partThere(y);
            whatUpTo(what, 1);
            int k = f().up[x][y];
            if (k == NONE) { return NONE; }
            if (k == 0) { return what == 0 ? 0 : NONE; }
            return f().rule(x, y, k)[what];
        }

        boolean sub(int a, int b) { return f().below(o.partOf(a), o.partOf(b)); }

        /** Each NODE as the list of its NAMES. */
        List<List<Integer>> nodes() {
            List<List<Integer>> all = new ArrayList<>();
            for (int a = 0; a < o.names.size(); a++) {
                if (f().isVoid(o.partOf(a)) || f().below(0, o.partOf(a))) { continue; }
                List<Integer> mine = null;
                for (List<Integer> node : all) { if (sub(a, node.get(0)) && sub(node.get(0), a)) { mine = node; } }
                if (mine == null) { mine = new ArrayList<>(); all.add(mine); }
                mine.add(a);
            }
            return all;
        }

        long node(int a) {
            if (f().isVoid(o.partOf(a))) { return NONE; }
            if (f().below(0, o.partOf(a))) { return -2; }
            List<List<Integer>> all = nodes();
            for (int i = 0; i < all.size(); i++) { if (all.get(i).contains(a)) { return i; } }
            throw new RuntimeException("no node");
        }

        boolean nodeBelow(int i, int j) { List<List<Integer>> all = nodes(); return i != j && sub(all.get(i).get(0), all.get(j).get(0)); }

        boolean child(int i, int j) {
            if (!nodeBelow(i, j)) { return false; }
            for (int k = 0; k < nodes().size(); k++) { if (nodeBelow(i, k) && nodeBelow(k, j)) { return false; } }
            return true;
        }

        int depth(int i) {
            int most = 1;
            for (int j = 0; j < nodes().size(); j++) { if (child(i, j)) { most = Math.max(most, depth(j) + 1); } }
            return most;
        }

        long nodeOf(int i, int what) {
            int count = nodes().size();
            if (i < 0 || i >= count) { throw new NoSuchElementException(); }
            whatUpTo(what, 5);
            if (what == 5) { return depth(i); }
            int bits = 0;
            if (what == 0) { for (int a : nodes().get(i)) { bits |= 1 << a; } return bits; }
            for (int j = 0; j < count; j++) {
                boolean in = what == 1 ? child(i, j) : what == 2 ? child(j, i) : what == 3 ? nodeBelow(i, j) : nodeBelow(j, i);
                if (in) { bits |= 1 << j; }
            }
            return bits;
        }

        long common(int a, int b) {
            nameThere(a);
            nameThere(b);
            if (f().isVoid(o.partOf(a)) || f().isVoid(o.partOf(b))) { throw new IllegalStateException(); }
            List<List<Integer>> all = nodes();
            boolean[] such = new boolean[all.size()];
            for (int i = 0; i < such.length; i++) { such[i] = sub(a, all.get(i).get(0)) && sub(b, all.get(i).get(0)); }
            int bits = 0;
            for (int i = 0; i < such.length; i++) {
                boolean least = such[i];
                for (int j = 0; j < such.length; j++) { if (such[j] && child(j, i)) { least = false; } }
                if (least) { bits |= 1 << i; }
            }
            return bits;
        }

        boolean so(int a, int b, long on) { return new Facts(o, on).below(o.partOf(a), o.partOf(b)); }

        long needed(int a, int b) {
            nameThere(a);
            nameThere(b);
            if (!sub(a, b)) { return 0; }
            long bits = 0;
            for (int k = 0; k < o.axioms.size(); k++) { if (o.axioms.get(k).on && !so(a, b, o.on() & ~(1L << k))) { bits |= 1L << k; } }
            return bits;
        }

        long enough(int a, int b) {
            nameThere(a);
            nameThere(b);
            if (!sub(a, b)) { return NONE; }
            long left = o.on();
            for (int k = 0; k < o.axioms.size(); k++) { if (so(a, b, left & ~(1L << k))) { left &= ~(1L << k); } }
            return left;
        }

        /** All sets of AXIOMS that are ON, by number (spread over the ON ones). */
        long spread(int set) {
            long bits = 0;
            int i = 0;
            for (int k = 0; k < o.axioms.size(); k++) { if (o.axioms.get(k).on) { if ((set >>> i & 1) != 0) { bits |= 1L << k; } i++; } }
            return bits;
        }

        boolean[] table(int a, int b) {
            int count = 1 << Long.bitCount(o.on());
            if (subsets == null) {
                subsets = new ArrayList<>();
                for (int set = 0; set < count; set++) { subsets.add(new Facts(o, spread(set))); }
            }
            boolean[] so = new boolean[count];
            for (int set = 0; set < count; set++) { so[set] = subsets.get(set).below(o.partOf(a), o.partOf(b)); }
            return so;
        }

        TreeSet<Long> reasons(int a, int b) {
            boolean[] so = table(a, b);
            TreeSet<Long> all = new TreeSet<>();
            for (int set = 0; set < so.length; set++) {
                boolean least = so[set];
                for (int i = 0; 1 << i < so.length; i++) { if ((set >>> i & 1) != 0 && so[set & ~(1 << i)]) { least = false; } }
                if (least) { all.add(spread(set)); }
            }
            return all;
        }

        long reason(int a, int b, int k) {
            nameThere(a);
            nameThere(b);
            List<Long> all = new ArrayList<>(reasons(a, b));
            if (k == NONE) { return all.size() > 4 ? -3 : all.size(); }
            return k < 0 || k >= all.size() || all.size() > 4 ? NONE : all.get(k);
        }

        long repair(int a, int b) {
            nameThere(a);
            nameThere(b);
            boolean[] so = table(a, b);
            if (!so[so.length - 1]) { return NONE; }
            if (so[0]) { return -2; }
            if (reasons(a, b).size() > 4) { return -3; }
            long best = NONE;
            for (int out = 0; out < so.length; out++) {
                long bits = spread(out);
                if (!so[so.length - 1 & ~out] && (best == NONE || Long.bitCount(bits) < Long.bitCount(best))) { best = bits; }
            }
            return best;
        }

        long likeness(int a, int b, int what) {
            nameThere(a);
            nameThere(b);
            whatUpTo(what, 1);
            int both = 0, any = 0;
            for (int c = 0; c < o.names.size(); c++) { if (sub(a, c) && sub(b, c)) { both++; } if (sub(a, c) || sub(b, c)) { any++; } }
            int x = both, y = any;
            while (x != 0) { int z = y % x; y = x; x = z; }
            return what == 0 ? both / y : any / y;
        }

        boolean lost(int p, int names, int roles, int way) {
            Part q = o.parts.get(p);
            switch (q.kind) {
                case 0: return way == 0 && (names >>> q.a & 1) == 0;
                case 1: return false;
                case 2: return true;
                case 3: return lost(q.a, names, roles, way) || lost(q.b, names, roles, way);
                default: return way == 0 && (roles >>> q.a & 1) == 0 || lost(q.b, names, roles, way);
            }
        }

        boolean full(int p, int names, int roles, int way) {
            Part q = o.parts.get(p);
            switch (q.kind) {
                case 0: return way == 1 && (names >>> q.a & 1) == 0;
                case 1: return true;
                case 2: return false;
                case 3: return full(q.a, names, roles, way) && full(q.b, names, roles, way);
                default: return way == 1 && (roles >>> q.a & 1) == 0 && full(q.b, names, roles, way);
            }
        }

        boolean idle(Axiom a, int names, int roles, int way) {
            if (a.kind == 2) { return (roles >>> (way == 0 ? a.a : a.b) & 1) == 0; }
            if (a.kind == 3) { return way == 0 ? (roles >>> a.a & 1) == 0 || (roles >>> a.b & 1) == 0 : (roles >>> a.c & 1) == 0; }
            boolean forth = lost(a.a, names, roles, way) || full(a.b, names, roles, way);
            boolean backward = lost(a.b, names, roles, way) || full(a.a, names, roles, way);
            return a.kind == 0 ? forth : forth && backward;
        }

        int[] signs(int p) {
            Part q = o.parts.get(p);
            if (q.kind == 0) { return new int[] {1 << q.a, 0}; }
            if (q.kind == 3) { int[] x = signs(q.a), y = signs(q.b); return new int[] {x[0] | y[0], x[1] | y[1]}; }
            if (q.kind == 4) { int[] x = signs(q.b); return new int[] {x[0], x[1] | 1 << q.a}; }
            return new int[2];
        }

        int[] signs(Axiom a) {
            if (a.kind == 2) { return new int[] {0, 1 << a.a | 1 << a.b}; }
            if (a.kind == 3) { return new int[] {0, 1 << a.a | 1 << a.b | 1 << a.c}; }
            int[] x = signs(a.a), y = signs(a.b);
            return new int[] {x[0] | y[0], x[1] | y[1]};
        }

        long cut(long among, int names, int roles, int way) {
            long in = 0;
            boolean more = true;
            while (more) {
                more = false;
                for (int k = o.axioms.size() - 1; k >= 0 && !more; k--) {
                    Axiom a = o.axioms.get(k);
                    if ((among >>> k & 1) == 0 || (in >>> k & 1) != 0 || idle(a, names, roles, way)) { continue; }
                    in |= 1L << k;
                    names |= signs(a)[0];
                    roles |= signs(a)[1];
                    more = true;
                }
            }
            return in;
        }

        long own(int k) { int[] s = signs(o.axioms.get(k)); return cut(o.on(), s[0], s[1], 0); }

        long atom(int k) {
            axiomThere(k);
            if (!o.axioms.get(k).on) { return NONE; }
            for (int i = 0; i < o.axioms.size(); i++) { if (o.axioms.get(i).on && own(i) == own(k)) { return i; } }
            throw new RuntimeException("no atom");
        }

        long module(int names, int roles, int way) {
            if (way < 0 || way > 2) { throw new IllegalArgumentException(); }
            for (int i = 0; i < 32; i++) {
                if ((names >>> i & 1) != 0 && i >= o.names.size()) { throw new IllegalArgumentException(); }
                if ((roles >>> i & 1) != 0 && i >= o.roles.size()) { throw new IllegalArgumentException(); }
            }
            if (way < 2) { return cut(o.on(), names, roles, way); }
            long in = cut(o.on(), names, roles, 0);
            int next = 1;
            int stays = 0;
            while (stays < 2) {
                long then = cut(in, names, roles, next);
                stays = then == in ? stays + 1 : 0;
                in = then;
                next = 1 - next;
            }
            return in;
        }

        /** The ontology with two CONCEPTS more, as if in an AXIOM that is OFF; their PARTS in place. */
        Onto with(Tree[] trees, int[] places) throws Fault {
            Onto more = new Onto();
            more.names.addAll(o.names);
            more.roles.addAll(o.roles);
            more.parts.clear();
            more.parts.addAll(o.parts);
            more.axioms.addAll(o.axioms);
            for (int i = 0; i < trees.length; i++) { places[i] = more.intern(trees[i]); }
            if (more.parts.size() > 60) { throw new Fault(5, 0); }
            return more;
        }

        long ask(int n) {
            Parser p = new Parser(cut(n), o, true);
            try {
                Tree c = p.concept(0);
                p.need("<");
                Tree d = p.concept(0);
                p.need("");
                int[] at = new int[2];
                Onto more = with(new Tree[] {c, d}, at);
                fault = NONE;
                return new Facts(more, o.on()).below(at[0], at[1]) ? 1 : 0;
            } catch (Fault e) {
                fault = e.place;
                return e.kind - 10;
            }
        }

        long of(int what, int n) {
            whatUpTo(what, 2);
            Parser p = new Parser(cut(n), o, true);
            try {
                Tree c = p.concept(0);
                p.need("");
                int[] at = new int[1];
                Onto more = with(new Tree[] {c}, at);
                fault = NONE;
                Facts g = new Facts(more, o.on());
                if (what == 2) { return g.isVoid(at[0]) ? 1 : 0; }
                int bits = 0;
                for (int i = 0; i < o.names.size(); i++) {
                    int q = o.partOf(i);
                    if (what == 0 ? g.below(q, at[0]) : g.below(at[0], q)) { bits |= 1 << i; }
                }
                return bits;
            } catch (Fault e) {
                fault = e.place;
                return e.kind - 10;
            }
        }

        boolean in(Facts g, int x, Tree t) {
            if (g.isVoid(x)) { return false; }
            switch (t.kind) {
                case 0: return g.up[x][o.partOf(t.number)] != NONE;
                case 1: return true;
                case 2: return false;
                case 3: return in(g, x, t.one) && in(g, x, t.two);
                default: break;
            }
            for (int y = 0; y < g.n; y++) {
                for (int r = 0; r < g.m; r++) { if (g.link[x][r][y] != NONE && g.under[r][t.number] && in(g, y, t.one)) { return true; } }
            }
            return false;
        }

        /** In the MODEL of what there is, without the PARTS of the question. */
        long model(int n) {
            Parser p = new Parser(cut(n), o, true);
            try {
                Tree c = p.concept(0);
                p.need("");
                with(new Tree[] {c}, new int[1]);
                fault = NONE;
                long bits = 0;
                for (int x = 0; x < o.parts.size(); x++) { if (in(f(), x, c)) { bits |= 1L << x; } }
                return bits;
            } catch (Fault e) {
                fault = e.place;
                return e.kind - 10;
            }
        }

        long print() {
            long h = 0;
            for (int x = 0; x < o.parts.size(); x++) {
                int ups = 0, links = 0;
                for (int v : f().up[x]) { if (v != NONE) { ups++; } }
                for (int[] row : f().link[x]) { for (int v : row) { if (v != NONE) { links++; } } }
                h = h * 31 + ups;
                h = h * 31 + links;
            }
            return h;
        }
    }

    static long real(LightClassifier x, String name, int[] v) {
        switch (name) {
            case "feed": return x.feed(v[0], v[1], v[2], v[3], v[4]);
            case "text": return x.text(v[0]);
            case "fault": return x.fault();
            case "turn": return x.turn(v[0]);
            case "undo": return x.undo();
            case "told": return x.told(v[0]);
            case "axiom": return x.axiom(v[0], v[1]);
            case "part": return x.part(v[0], v[1]);
            case "letter": return x.letter(v[0], v[1], v[2]);
            case "named": return x.named(v[0]);
            case "below": return x.below(v[0], v[1]) ? 1 : 0;
            case "when": return x.when(v[0], v[1]);
            case "why": return x.why(v[0], v[1], v[2]);
            case "link": return x.link(v[0], v[1], v[2]) ? 1 : 0;
            case "under": return x.under(v[0]);
            case "node": return x.node(v[0]);
            case "nodeOf": return x.nodeOf(v[0], v[1]);
            case "nothing": return x.nothing();
            case "common": return x.common(v[0], v[1]);
            case "needed": return x.needed(v[0], v[1]);
            case "enough": return x.enough(v[0], v[1]);
            case "reason": return x.reason(v[0], v[1], v[2]);
            case "repair": return x.repair(v[0], v[1]);
            case "likeness": return x.likeness(v[0], v[1], v[2]);
            case "atom": return x.atom(v[0]);
            case "depends": return x.depends(v[0]);
            case "module": return x.module(v[0], v[1], v[2]);
            case "ask": return x.ask(v[0]);
            case "of": return x.of(v[0], v[1]);
            case "model": return x.model(v[0]);
            case "print": return x.print();
            case "status": return x.status(v[0]);
            default: throw new RuntimeException(name);
        }
    }

    interface Doer { long run(); }

    static String outcome(Doer d) {
        try {
            return Long.toString(d.run());
        } catch (RuntimeException e) {
            return "throws." + e.getClass().getSimpleName();
        }
    }

    static final class Run {
        final Random random;
        final LightClassifier x = new LightClassifier();
        final Naive y = new Naive();
        final int number;
        // How large the ontologies of this run are: 0 small, 1 middle, 2 about the limits, 3 dense (many ways from name to name).
        final int size;
        final StringBuilder story = new StringBuilder();
        int calls = 0;
        boolean bad = false;

        Run(int number) { this.number = number; random = new Random(number * 7919L + 13); size = number % 10 == 9 ? 2 : number % 3 == 2 ? 1 : number % 3 == 1 ? 3 : 0; }

        void call(String name, int... v) {
            if (bad || calls >= 512) { return; }
            calls++;
            String due = outcome(() -> y.call(name, v));
            String got = outcome(() -> real(x, name, v));
            compared++;
            story.append("  ").append(name).append(Arrays.toString(v)).append(" = ").append(got).append('\n');
            if (!got.equals(due)) {
                bad = true;
                wrong++;
                System.out.println("run " + number + ": " + name + Arrays.toString(v) + " answered " + got + ", due is " + due);
                if (wrong <= 3) { System.out.println(story); }
            }
        }

        int feed(String s) {
            for (int p = 0; p < s.length(); p += 20) {
                int[] v = new int[5];
                for (int i = 0; i < 20; i++) { int b = p + i < s.length() ? s.charAt(p + i) : random.nextInt(4) == 0 ? random.nextInt(256) : 0; v[i / 4] |= b << 24 - 8 * (i % 4); }
                story.append("  \"").append(s, p, Math.min(p + 20, s.length())).append("\"\n");
                call("feed", v);
            }
            return s.length();
        }

        String blank() { int k = random.nextInt(12); return k < 10 ? "" : k == 10 ? " " : "  "; }
        String pick(String[] list, int most) { return list[random.nextInt(Math.min(most, list.length))]; }

        String[] nameList = {"a", "b", "c", "d", "e", "f", "g", "h", "i", "j", "k", "l", "m", "n", "o", "p", "q", "tops", "som", "x", "y", "z", "abcdef", "nothin", "aa", "ab"};
        String[] roleList = {"r", "s", "t", "u", "v", "w", "a", "rrrrrr", "xx", "yy"};

        // In questions words that there are come mostly.
        boolean asking = false;

        String known(List<String> words, String other) { return asking && !words.isEmpty() && random.nextInt(12) > 0 ? words.get(random.nextInt(words.size())) : other; }
        String name() { return known(y.o.names, pick(nameList, size == 0 ? 6 : size == 1 ? 12 : size == 3 ? 4 : 26)); }
        String role() { return known(y.o.roles, pick(roleList, size == 0 ? 3 : size == 1 ? 5 : size == 3 ? 2 : random.nextInt(30) == 0 ? 10 : 8)); }

        String denseAxiom() {
            int k = random.nextInt(12);
            if (k < 5) { return name() + "<" + name(); }
            if (k < 7) { return name() + "<some " + role() + " " + name(); }
            if (k < 9) { return "some " + role() + " " + name() + "<" + (random.nextInt(6) == 0 ? "nothing" : name()); }
            if (k == 9) { return name() + "&" + name() + "<" + name(); }
            return k == 10 ? role() + (random.nextBoolean() ? "*" + role() : "") + "<<" + role() : name() + "=" + name() + "&" + name();
        }

        String atom(int depth) {
            int k = random.nextInt(depth > 3 ? 12 : 20);
            if (k < 10) { return blank() + name(); }
            if (k == 10) { return blank() + "top"; }
            if (k == 11) { return random.nextInt(3) == 0 ? blank() + "nothing" : blank() + name(); }
            if (k < 17) { String in = atom(depth + 1); return blank() + "some " + role() + (in.startsWith(" ") || in.startsWith("(") ? in : " " + in); }
            return blank() + "(" + concept(depth + 1) + blank() + ")";
        }

        String concept(int depth) {
            StringBuilder s = new StringBuilder(atom(depth));
            while (random.nextInt(5) == 0) { s.append(blank()).append('&').append(atom(depth)); }
            return s.toString();
        }

        String axiom() {
            int k = random.nextInt(10);
            if (k == 0) { return blank() + role() + blank() + "<<" + blank() + role(); }
            if (k == 1) { return blank() + role() + blank() + "*" + role() + blank() + "<<" + role(); }
            if (k == 2) { return concept(1) + blank() + "=" + concept(1); }
            if (k < 6) { return name() + blank() + "<" + concept(1); }
            if (k < 8) { return concept(1) + "<" + name(); }
            return concept(0) + blank() + "<" + concept(0);
        }

        String ontology() {
            int most = size == 3 ? 6 + random.nextInt(4) : size == 0 ? 1 + random.nextInt(8) : size == 1 ? 4 + random.nextInt(9) : 20 + random.nextInt(15);
            StringBuilder s = new StringBuilder();
            for (int k = 0; k < most; k++) {
                String a = (size == 3 ? denseAxiom() : size == 2 && random.nextInt(3) > 0 ? name() + "<" + name() : axiom()) + blank() + ";";
                if (s.length() + a.length() > 396) { break; }
                s.append(a);
            }
            return s + blank();
        }

        String deep() {
            int k = random.nextInt(4);
            StringBuilder s = new StringBuilder();
            if (k == 0) { int n = 5 + random.nextInt(4); s.append("(".repeat(n)).append("a").append(")".repeat(n)).append("<b;"); }
            if (k == 1) { int n = 50 + random.nextInt(7); s.append("some r ".repeat(n)).append("a<a;"); }
            if (k == 2) { int n = 55 + random.nextInt(6); s.append("a&".repeat(n)).append("a<").append(random.nextInt(3) == 0 ? "a&&" : "b;"); }
            if (k == 3) { s.append("a<a;".repeat(30 + random.nextInt(5))).append(random.nextInt(2) == 0 ? "r*s<<t;" : "<;"); }
            return s.toString();
        }

        String mutate(String s) {
            String signs = "ab &()<=;*<<stz{A";
            StringBuilder b = new StringBuilder(s);
            for (int k = random.nextInt(2); k >= 0; k--) {
                int p = random.nextInt(b.length() + 1);
                char c = random.nextInt(8) == 0 ? (char) random.nextInt(256) : signs.charAt(random.nextInt(signs.length()));
                int how = random.nextInt(4);
                if (how == 0 && p < b.length()) { b.deleteCharAt(p); }
                else if (how == 1 && p < b.length()) { b.setCharAt(p, c); }
                else if (how == 2) { b.setLength(p); }
                else { b.insert(p, c); }
            }
            return b.length() > 400 ? b.substring(0, 400) : b.toString();
        }

        /** A number that is mostly good below a bound. */
        int near(int bound) { int k = random.nextInt(14); return k == 0 ? -1 : k == 1 ? bound : k == 2 && random.nextInt(4) == 0 ? random.nextInt() : random.nextInt(Math.max(bound, 1)); }

        int bits(int bound) { return random.nextInt(12) == 0 ? random.nextInt() >>> random.nextInt(32) : bound == 0 ? 0 : random.nextInt() & random.nextInt() & (1 << bound) - 1; }

        void question() {
            asking = true;
            String s = random.nextBoolean() ? concept(1) : concept(0) + blank() + "<" + concept(0);
            if (size == 2 && random.nextInt(4) == 0) { s = ("some " + role() + " ").repeat(2 + random.nextInt(45)) + name() + (random.nextBoolean() ? "" : "<" + name()); }
            asking = false;
            boolean pair = s.indexOf('<') >= 0;
            if (size == 2 && random.nextInt(3) == 0) { s = "some r " + "(a&".repeat(random.nextInt(5) + 2) + "some r a" + (random.nextInt(4) == 0 ? "" : "))))))".substring(0, Math.min(6, 2))) + (pair ? "<b" : ""); }
            if (random.nextInt(5) == 0) { s = mutate(s); }
            if (s.length() > 380) { return; }
            int n = feed(s);
            if (random.nextInt(10) == 0) { pair = !pair; }
            if (random.nextInt(15) == 0) { n = near(400); }
            if (pair) { call("ask", n); } else if (random.nextBoolean()) { call("model", n); } else { call("of", near(3), n); }
            call("fault");
        }

        void one() {
            int parts = y.o.parts.size(), names = y.o.names.size(), roles = y.o.roles.size(), axioms = y.o.axioms.size();
            boolean few = Long.bitCount(y.o.on()) <= 9 && parts < 25;
            switch (random.nextInt(34)) {
                case 0: call("turn", near(axioms)); break;
                case 1: call("undo"); break;
                case 2: call("told", near(12)); break;
                case 3: call("axiom", near(axioms), near(5)); break;
                case 4: call("part", near(parts), near(3)); break;
                case 5: call("letter", near(2), near(random.nextBoolean() ? names : roles), near(random.nextInt(3) == 0 ? 7 : 1)); break;
                case 6: call("named", near(names)); break;
                case 7: call("below", near(parts), near(parts)); break;
                case 8: call("when", near(parts), near(parts)); break;
                case 9: case 10: case 11: { int a = near(parts), b = near(parts); call("when", a, b); call("why", a, b, 0); call("why", a, b, near(2)); break; }
                case 12: call("link", near(parts), near(roles), near(parts)); break;
                case 13: call("under", near(roles)); break;
                case 14: call("node", near(names)); break;
                case 15: case 16: call("nodeOf", random.nextInt(20) == 0 ? -2 : near((int) y.told(7)), random.nextInt(9) == 0 ? near(6) : random.nextInt(6)); break;
                case 17: call("nothing"); break;
                case 18: call("common", near(names), near(names)); break;
                case 19: call("needed", near(names), near(names)); break;
                case 20: call("enough", near(names), near(names)); break;
                case 21: case 22: case 23: case 24: {
                    if (few) {
                        int a = near(names), b = near(names);
                        call("reason", a, b, -1);
                        call("reason", a, b, random.nextInt(6) - 2);
                        call("repair", a, b);
                    }
                    break;
                }
                case 25: call("likeness", near(names), near(names), near(2)); break;
                case 26: call("atom", near(axioms)); break;
                case 27: call("depends", near(axioms)); break;
                case 28: call("module", bits(names), bits(roles), near(3)); break;
                case 29: case 30: case 31: question(); break;
                case 32: call("print"); break;
                default: call("status", near(3)); break;
            }
        }

        void go() {
            while (calls < 505 && !bad) {
                if (calls == 0 || random.nextInt(60) == 0) {
                    String s = random.nextInt(8) == 0 ? deep() : ontology();
                    if (random.nextInt(4) == 0) { s = mutate(s); }
                    int n = feed(s);
                    call("text", random.nextInt(20) == 0 ? near(400) : n);
                    call("fault");
                    call("told", 4);
                    call("told", 5);
                    call("told", 6);
                    call("told", 11);
                    call("print");
                }
                one();
                if (random.nextInt(100) == 0) { int v = random.nextInt(); for (int k = 0; k < 22; k++) { call("feed", v, v, v, v, v); } call("told", 9); }
                if (random.nextInt(150) == 0) { for (int k = 0; k < 23; k++) { call("turn", near(y.o.axioms.size())); } for (int k = 0; k < 23; k++) { call("undo"); } }
            }
            for (int k = -1; k < 4; k++) { call("status", k); }
        }
    }

    /** Texts on which every call is made with every number in range and just out of it. */
    static final String[] CORNERS = {
        "",
        "a<some r top;top<b;some r b<c;c<some s d;r*s<<t;some t top<e;",
        "a<some r top;top<some s b;r*s<<t;some t b<c;c<some r top;",
        "top<nothing;a<b;",
        "nothing<a;top=b;b<c;some r nothing<d;d<some s d;",
        "b<c;a<b;d=c;c=e&e;c<b;f<a;f<g;g<c;",
        "r<<s;s<<r;t*r<<t;a<some t b;b<some s c;some t c<nothing;d<some r a&e;",
        "a&b<nothing;c<a;c<d;d<b;e<some r c;e<some s f;some s f<g;g<h;",
        "a=some r a;b=some r b;a<b;some r some r b<c;r*r<<r;",
    };

    /** As many PARTS, NAMES, ROLES, AXIOMS as there may be. */
    static final String[] LIMITS = {
        "a&".repeat(57) + "a<a;",
        "some r ".repeat(56) + "a<a;",
        "r*s<<t;u*v<<w;x<<y;r<<t;a<some r b;b<some s c;some t c<d;d<e&f&g&h&i&j&k&l&m&n&o&p&q&r&s&t&u&v&w&x;"
            + "x<some u a;a<some v x;some w x<some y a;some y a<some x b;a<some x some w b;" + "c<c;".repeat(19),
        "a<b;b<c;c<d;d<e;e<f;f<g;g<h;h<i;i<j;j<k;k<l;l<m;m<n;n<o;o<p;p<q;q<r;r<s;s<t;t<u;u<v;v<w;w<x;"
            + "a<some r x;some r x<some s a;r<<s;s<<t;t<<u;u<<v;v<<w;w<<x;x*x<<y;",
    };

    static List<Object[]> everyCall(Onto o, boolean small) {
        List<Object[]> all = new ArrayList<>();
        int[] bounds = {o.axioms.size(), o.parts.size(), o.names.size(), o.roles.size()};
        String[][] calls = {{"told", "c"}, {"axiom", "a5"}, {"part", "p3"}, {"letter", "2n7"}, {"letter", "2r7"}, {"named", "n"},
            {"below", "pp"}, {"when", "pp"}, {"why", "pp2"}, {"link", "prp"}, {"under", "r"}, {"node", "n"}, {"nodeOf", "n6"},
            {"nothing", ""}, {"common", "nn"}, {"likeness", "nn2"}, {"atom", "a"}, {"depends", "a"}, {"print", ""}, {"status", "3"},
            {"needed", "nn"}, {"enough", "nn"}, {"reason", "nn6"}, {"repair", "nn"}};
        for (String[] call : calls) {
            List<int[]> rows = new ArrayList<>();
            rows.add(new int[0]);
            for (char kind : call[1].toCharArray()) {
                int bound = kind == 'c' ? 12 : Character.isDigit(kind) ? kind - '0' : bounds["apnr".indexOf(kind)];
                List<int[]> longer = new ArrayList<>();
                for (int[] row : rows) {
                    for (int v = call[0].equals("reason") && Character.isDigit(kind) ? -3 : -1; v <= bound; v++) {
                        int[] next = Arrays.copyOf(row, row.length + 1);
                        next[row.length] = v;
                        longer.add(next);
                    }
                }
                rows = longer;
            }
            boolean dear = "needed enough reason repair".contains(call[0]);
            // Of many rows some are taken, with the first and the last.
            int step = Math.max(1, rows.size() / 1500) | (rows.size() > 1500 ? 1 : 0);
            if (dear && !small) { step = Math.max(1, rows.size() / 4); }
            if (dear && !small && (call[0].equals("reason") || call[0].equals("repair"))) { continue; }
            for (int i = 0; i < rows.size(); i += step) { all.add(new Object[] {call[0], rows.get(i)}); }
            all.add(new Object[] {call[0], rows.get(rows.size() - 1)});
        }
        for (int way = -1; way <= 3; way++) {
            int names = Math.min(bounds[2], 6), roles = Math.min(bounds[3], 3);
            for (int m = 0; m <= 1 << names; m++) { for (int q = 0; q <= 1 << roles; q++) { all.add(new Object[] {"module", new int[] {m, q, way}}); } }
        }
        return all;
    }

    static void corner(String text, boolean small) {
        Run run = null;
        Facts kept = null;
        List<Facts> sets = null;
        for (int off = -1; off < (small ? 2 : 0); off++) {
            run = null;
            kept = null;
            sets = null;
            Onto told = new Onto();
            try { new Parser(text, told, false).all(); } catch (Fault e) { throw new RuntimeException("fault at " + e.place + " of " + text); }
            for (Object[] call : everyCall(told, small)) {
                if (run == null || run.calls > 500) {
                    if (run != null) { kept = run.y.facts; sets = run.y.subsets; }
                    run = new Run(-1);
                    run.call("text", run.feed(text));
                    if (off >= 0 && off < told.axioms.size()) { run.call("turn", off); }
                    // The same ontology again: its facts need not be found anew.
                    run.y.facts = kept;
                    run.y.subsets = sets;
                }
                run.call((String) call[0], (int[]) call[1]);
            }
        }
    }

    public static void main(String[] args) {
        if (args.length == 0) {
            for (String text : CORNERS) { corner(text, true); }
            for (String text : LIMITS) { corner(text, false); }
        }
        int from = args.length > 0 ? Integer.parseInt(args[0]) : 0;
        int to = args.length > 1 ? Integer.parseInt(args[1]) : 150;
        for (int k = from; k < to; k++) { new Run(k).go(); }
        System.out.println(compared + " answers compared, runs not as due: " + wrong);
        if (wrong != 0) { System.exit(1); }
    }
}
