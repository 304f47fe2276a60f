import java.util.Arrays;
import java.util.NoSuchElementException;

/** A classifier of light ontologies; the document's promises are kept method by method. */
public final class LightClassifier {
    public static final int NONE = -1;

    private static final int TAPE_BYTES = 400;
    private static final int FED_BYTES = 20;
    private static final int MOST_NAMES = 24;
    private static final int MOST_ROLES = 8;
    private static final int MOST_AXIOMS = 32;
    private static final int MOST_PARTS = 60;
    private static final int MOST_LETTERS = 6;
    private static final int MOST_BRACKETS = 6;
    private static final int MOST_BACK = 20;
    private static final int MOST_REASONS = 4;

    // Every round brings a PART into an ABOVE or a LINK, of which there are fewer than this.
    private static final int MOST_ROUNDS = 40000;

    private static final int TOP = 0;
    private static final int NOTHING = 1;

    private static final int BELOW = 0;
    private static final int EQUAL = 1;
    private static final int ROLES_BELOW = 2;
    private static final int CHAIN = 3;

    private static final int IS_NAME = 0;
    private static final int IS_TOP = 1;
    private static final int IS_NOTHING = 2;
    private static final int IS_AND = 3;
    private static final int IS_SOME = 4;

    private static final int TOP_NODE = -2;
    private static final int BY_NO_AXIOMS = -2;
    private static final int TOO_MANY = -3;
    private static final int FAULT_BASE = 10;

    private static final int NO_SUCH = 0;
    private static final int WRONG_ARGUMENT = 1;
    private static final int WRONG_STATE = 2;

    private final byte[] tape = new byte[TAPE_BYTES];
    private int tapeBytes = 0;
    private int faultPlace = NONE;
    private Ontology current = new Ontology();
    // A text is told to this one; only when it has no FAULT the two change places.
    private Ontology draft = new Ontology();
    private final Reader reader = new Reader(tape, draft);

    private final int[] turned = new int[MOST_BACK];
    private int turnedCount = 0;

    // What follows from the AXIOMS is worked out when it is first asked for.
    private boolean settled = false;
    private int rounds = 0;
    private final int[] cameIn = new int[MOST_PARTS * MOST_PARTS];
    private final Saturation whole = new Saturation(current);
    private final Hierarchy hierarchy = new Hierarchy();

    // Questions beside the state work here, so that the settled answers stay.
    private final Saturation trial = new Saturation(current);
    private final long[] extent = new long[MOST_PARTS];
    private final Reasons reasons = new Reasons(trial);
    private final Modules modules = new Modules();

    private final int[] refused = new int[3];

    public LightClassifier() {
    }

    public int feed(int a, int b, int c, int d, int e) {
        if (tapeBytes + FED_BYTES > TAPE_BYTES) {
            return NONE;
        }
        putBytes(a);
        putBytes(b);
        putBytes(c);
        putBytes(d);
        putBytes(e);
        return tapeBytes;
    }

    public int text(int n) throws IllegalArgumentException {
        needBytes(n);
        draft.clear();
        reader.open(n, draft, false);
        reader.readAxioms();
        tapeBytes = 0;
        faultPlace = reader.faultPlace;
        if (reader.faultKind != 0) {
            return reader.faultKind - FAULT_BASE;
        }
        Ontology old = current;
        current = draft;
        draft = old;
        turnedCount = 0;
        unsettle();
        return current.axioms;
    }

    public int fault() {
        return faultPlace;
    }

    public int turn(int axiom) throws NoSuchElementException {
        needAxiom(axiom);
        if (turnedCount >= MOST_BACK) {
            System.arraycopy(turned, 1, turned, 0, MOST_BACK - 1);
            turnedCount = MOST_BACK - 1;
        }
        turned[turnedCount] = axiom;
        turnedCount++;
        current.on ^= 1L << axiom;
        unsettle();
        return isOn(axiom) ? 1 : 0;
    }

    public int undo() {
        if (turnedCount <= 0) {
            return NONE;
        }
        turnedCount--;
        current.on ^= 1L << turned[turnedCount];
        unsettle();
        return turnedCount;
    }

    public int told(int what) throws IllegalArgumentException {
        needWhat(what, 11);
        switch (what) {
            case 0: return current.axioms;
            case 1: return Long.bitCount(current.on);
            case 2: return current.names.count;
            case 3: return current.roles.count;
            case 4: return current.parts;
            case 9: return tapeBytes;
            case 10: return turnedCount;
            default: return toldOfSettled(what);
        }
    }

    public int axiom(int k, int what) throws NoSuchElementException, IllegalArgumentException {
        needAxiom(k);
        needWhat(what, 4);
        switch (what) {
            case 0: return current.axiomKind[k];
            case 1: return isOn(k) ? 1 : 0;
            case 2: return current.axiomFirst[k];
            case 3: return current.axiomSecond[k];
            default: return current.axiomThird[k];
        }
    }

    public int part(int k, int what) throws NoSuchElementException, IllegalArgumentException {
        needPart(k);
        needWhat(what, 2);
        switch (what) {
            case 0: return current.partKind[k];
            case 1: return current.partFirst[k];
            default: return current.partSecond[k];
        }
    }

    public int letter(int kind, int k, int i) throws NoSuchElementException {
        if (kind != 0 && kind != 1) {
            refuseNoSuch();
        }
        Words words = kind == 0 ? current.names : current.roles;
        int letter = words.letterAt(k, i);
        if (letter == NONE) {
            refuseNoSuch();
        }
        return letter;
    }

    public int named(int name) throws NoSuchElementException {
        needName(name);
        return current.partOfName[name];
    }

    public boolean below(int x, int y) throws NoSuchElementException {
        needPart(x);
        needPart(y);
        settle();
        return whole.isBelow(x, y);
    }

    public int when(int x, int y) throws NoSuchElementException {
        needPart(x);
        needPart(y);
        settle();
        int round = cameIn[x * MOST_PARTS + y];
        return round != NONE ? round : cameIn[x * MOST_PARTS + NOTHING];
    }

    public int why(int x, int y, int what) throws NoSuchElementException, IllegalArgumentException {
        needPart(x);
        needPart(y);
        needWhat(what, 1);
        settle();
        int round = cameIn[x * MOST_PARTS + y];
        if (round == NONE) {
            return NONE;
        }
        if (round == 0) {
            return what == 0 ? 0 : NONE;
        }
        trial.begin(current, current.on, current.allParts());
        for (int k = 1; k < round; k++) {
            trial.deriveAll();
            trial.commitAll();
        }
        int rule = trial.ruleFor(x, y);
        return what == 0 ? rule : trial.witnessOf(rule, x, y);
    }

    public boolean link(int x, int role, int y) throws NoSuchElementException {
        needPart(x);
        needRole(role);
        needPart(y);
        settle();
        return (whole.links[x * MOST_ROLES + role] >>> y & 1L) != 0;
    }

    public int under(int role) throws NoSuchElementException {
        needRole(role);
        settle();
        return whole.under[role];
    }

    public int node(int name) throws NoSuchElementException {
        needName(name);
        settle();
        return hierarchy.nodeOfName[name];
    }

    public int nodeOf(int node, int what) throws NoSuchElementException, IllegalArgumentException {
        settle();
        if (node < 0 || node >= hierarchy.nodes) {
            refuseNoSuch();
        }
        needWhat(what, 5);
        switch (what) {
            case 0: return hierarchy.namesOf[node];
            case 1: return hierarchy.parents[node];
            case 2: return hierarchy.childrenOf(node);
            case 3: return hierarchy.over[node];
            case 4: return hierarchy.allUnder(node);
            default: return hierarchy.depth(node);
        }
    }

    public int nothing() {
        settle();
        return hierarchy.voidNames;
    }

    public int common(int a, int b) throws NoSuchElementException, IllegalStateException {
        needName(a);
        needName(b);
        settle();
        if (hierarchy.nodeOfName[a] == NONE || hierarchy.nodeOfName[b] == NONE) {
            refuseState();
        }
        return hierarchy.commonOf(a, b);
    }

    public long needed(int a, int b) throws NoSuchElementException {
        needName(a);
        needName(b);
        aimReasons(a, b);
        return reasons.neededAlone();
    }

    public long enough(int a, int b) throws NoSuchElementException {
        needName(a);
        needName(b);
        aimReasons(a, b);
        return reasons.isSo ? reasons.shrink(reasons.base) : NONE;
    }

    public long reason(int a, int b, int k) throws NoSuchElementException {
        needName(a);
        needName(b);
        aimReasons(a, b);
        reasons.findAll();
        if (k == NONE) {
            return reasons.count > MOST_REASONS ? TOO_MANY : reasons.count;
        }
        if (k < 0 || k >= reasons.count || reasons.count > MOST_REASONS) {
            return NONE;
        }
        return reasons.found[k];
    }

    public long repair(int a, int b) throws NoSuchElementException {
        needName(a);
        needName(b);
        aimReasons(a, b);
        reasons.findAll();
        if (reasons.count == 0) {
            return NONE;
        }
        if (reasons.count > MOST_REASONS) {
            return TOO_MANY;
        }
        return reasons.found[0] == 0 ? BY_NO_AXIOMS : reasons.leastCut();
    }

    public int likeness(int a, int b, int what) throws NoSuchElementException, IllegalArgumentException {
        needName(a);
        needName(b);
        needWhat(what, 1);
        settle();
        int ofA = namesOver(whole, current.partOfName[a]);
        int ofB = namesOver(whole, current.partOfName[b]);
        int both = Integer.bitCount(ofA & ofB);
        int either = Integer.bitCount(ofA | ofB);
        return what == 0 ? inLowestTerms(both, either) : inLowestTerms(either, both);
    }

    public int atom(int axiom) throws NoSuchElementException {
        needAxiom(axiom);
        if (!isOn(axiom)) {
            return NONE;
        }
        long own = modules.ofAxiom(current, axiom);
        for (int k = 0; k < axiom; k++) {
            if (isOn(k) && modules.ofAxiom(current, k) == own) {
                return k;
            }
        }
        return axiom;
    }

    public long depends(int axiom) throws NoSuchElementException {
        needAxiom(axiom);
        return isOn(axiom) ? modules.ofAxiom(current, axiom) : 0L;
    }

    public long module(int names, int roles, int way) throws IllegalArgumentException {
        boolean known = names >>> current.names.count == 0 && roles >>> current.roles.count == 0;
        if (way < 0 || way > 2 || !known) {
            refuseArgument();
        }
        if (way == 2) {
            return modules.inTurn(current, names, roles);
        }
        return modules.cut(current, current.on, names, roles, way == 1);
    }

    public int ask(int n) throws IllegalArgumentException {
        needBytes(n);
        int kept = current.parts;
        reader.open(n, current, true);
        reader.readQuestion();
        takeQuestion();
        int answer = reader.faultKind - FAULT_BASE;
        if (reader.faultKind == 0) {
            answer = trial.entails(current, current.on, reader.first, reader.second) ? 1 : 0;
        }
        current.parts = kept;
        return answer;
    }

    public int of(int what, int n) throws IllegalArgumentException {
        needWhat(what, 2);
        needBytes(n);
        int kept = current.parts;
        readOneConcept(n);
        int answer = reader.faultKind - FAULT_BASE;
        if (reader.faultKind == 0) {
            answer = answerOf(what, reader.first);
        }
        current.parts = kept;
        return answer;
    }

    public long model(int n) throws IllegalArgumentException {
        needBytes(n);
        int kept = current.parts;
        long told = current.allParts();
        readOneConcept(n);
        long answer = reader.faultKind - FAULT_BASE;
        if (reader.faultKind == 0) {
            answer = extentOf(reader.first) & told;
        }
        current.parts = kept;
        return answer;
    }

    public long print() {
        settle();
        long sum = 0;
        for (int x = 0; x < current.parts; x++) {
            sum = sum * 31 + Long.bitCount(whole.above[x]);
            sum = sum * 31 + whole.linksFrom(x);
        }
        return sum;
    }

    public int status(int what) {
        return what < 0 || what > WRONG_STATE ? NONE : refused[what];
    }

    private void putBytes(int number) {
        for (int shift = 24; shift >= 0; shift -= 8) {
            if (tapeBytes < TAPE_BYTES) {
                tape[tapeBytes] = (byte) (number >>> shift);
                tapeBytes++;
            }
        }
    }

    private void refuseNoSuch() {
        refused[NO_SUCH]++;
        throw new NoSuchElementException("no such thing");
    }

    private void refuseArgument() {
        refused[WRONG_ARGUMENT]++;
        throw new IllegalArgumentException("wrong argument");
    }

    private void refuseState() {
        refused[WRONG_STATE]++;
        throw new IllegalStateException("a name is void");
    }

    private void needBytes(int n) {
        if (n < 0 || n > tapeBytes) {
            refuseArgument();
        }
    }

    private void needWhat(int what, int last) {
        if (what < 0 || what > last) {
            refuseArgument();
        }
    }

    private void needAxiom(int k) {
        if (k < 0 || k >= current.axioms) {
            refuseNoSuch();
        }
    }

    private void needPart(int k) {
        if (k < 0 || k >= current.parts) {
            refuseNoSuch();
        }
    }

    private void needName(int name) {
        if (name < 0 || name >= current.names.count) {
            refuseNoSuch();
        }
    }

    private void needRole(int role) {
        if (role < 0 || role >= current.roles.count) {
            refuseNoSuch();
        }
    }

    private boolean isOn(int axiom) {
        return (current.on >>> axiom & 1L) != 0;
    }

    private void unsettle() {
        settled = false;
        reasons.forget();
    }

    private void settle() {
        if (settled) {
            return;
        }
        whole.begin(current, current.on, current.allParts());
        for (int x = 0; x < current.parts; x++) {
            Arrays.fill(cameIn, x * MOST_PARTS, (x + 1) * MOST_PARTS, NONE);
            noteRound(x, whole.above[x], 0);
        }
        boolean more = true;
        for (rounds = 0; more && rounds < MOST_ROUNDS; rounds++) {
            whole.deriveAll();
            for (int x = 0; x < current.parts; x++) {
                noteRound(x, whole.newAbove[x], rounds + 1);
            }
            more = whole.commitAll();
        }
        // The last round counted brought nothing.
        rounds--;
        hierarchy.build(current, whole);
        settled = true;
    }

    private void noteRound(int x, long fresh, int round) {
        if (fresh == 0) {
            return;
        }
        for (int y = 0; y < current.parts; y++) {
            if ((fresh >>> y & 1L) != 0) {
                cameIn[x * MOST_PARTS + y] = round;
            }
        }
    }

    private int toldOfSettled(int what) {
        settle();
        switch (what) {
            case 5: return rounds;
            case 7: return hierarchy.nodes;
            case 8: return Integer.bitCount(hierarchy.voidNames);
            default: break;
        }
        int sum = 0;
        for (int x = 0; x < current.parts; x++) {
            sum += what == 6 ? whole.linksFrom(x) : Long.bitCount(whole.above[x]);
        }
        return sum;
    }

    private void aimReasons(int a, int b) {
        reasons.aim(current, current.partOfName[a], current.partOfName[b]);
    }

    private void readOneConcept(int n) {
        reader.open(n, current, true);
        reader.readSingle();
        takeQuestion();
    }

    private void takeQuestion() {
        tapeBytes = 0;
        faultPlace = reader.faultPlace;
    }

    private int answerOf(int what, int concept) {
        trial.saturate(current, current.on, current.allParts());
        if (what == 2) {
            return trial.isVoid(concept) ? 1 : 0;
        }
        return what == 1 ? namesOver(trial, concept) : namesUnder(trial, concept);
    }

    private int namesOver(Saturation facts, int x) {
        int names = 0;
        for (int name = 0; name < current.names.count; name++) {
            if (facts.isBelow(x, current.partOfName[name])) {
                names |= 1 << name;
            }
        }
        return names;
    }

    private int namesUnder(Saturation facts, int y) {
        int names = 0;
        for (int name = 0; name < current.names.count; name++) {
            if (facts.isBelow(current.partOfName[name], y)) {
                names |= 1 << name;
            }
        }
        return names;
    }

    /** What is within a PART has a lesser number, so one pass over all lays out the MODEL. */
    private long extentOf(int concept) {
        trial.saturate(current, current.on, current.allParts());
        for (int p = 0; p <= concept; p++) {
            extent[p] = extentOfOne(p);
        }
        return extent[concept];
    }

    private long extentOfOne(int p) {
        long live = current.allParts() & ~trial.holders[NOTHING];
        int first = current.partFirst[p];
        int second = current.partSecond[p];
        switch (current.partKind[p]) {
            case IS_TOP: return live;
            case IS_NOTHING: return 0L;
            case IS_NAME: return trial.holders[p] & live;
            case IS_AND: return extent[first] & extent[second];
            default: break;
        }
        long in = 0;
        for (int x = 0; x < current.parts; x++) {
            if ((trial.reach[x * MOST_ROLES + first] & extent[second]) != 0) {
                in |= 1L << x;
            }
        }
        return in & live;
    }

    private static int inLowestTerms(int number, int other) {
        for (int divisor = MOST_NAMES; divisor > 1; divisor--) {
            if (number % divisor == 0 && other % divisor == 0) {
                return number / divisor;
            }
        }
        return number;
    }

    /** Words of one kind, numbered as they come; the letters of each packed in one number, last one lowest. */
    private static final class Words {
        final int most;
        // Rows are as long as the larger kind needs.
        final long[] packed = new long[MOST_NAMES];
        int count = 0;

        Words(int most) {
            this.most = most < MOST_NAMES ? most : MOST_NAMES;
        }

        int letterAt(int k, int i) {
            if (k < 0 || k >= count || i < 0 || i >= MOST_LETTERS) {
                return NONE;
            }
            int length = 0;
            while (length < MOST_LETTERS && packed[k] >>> 8 * length != 0) {
                length++;
            }
            return i >= length ? NONE : (int) (packed[k] >>> 8 * (length - 1 - i)) & 255;
        }

        int find(long word) {
            for (int k = 0; k < count; k++) {
                if (packed[k] == word) {
                    return k;
                }
            }
            return NONE;
        }

        int add(long word) {
            if (count >= most) {
                return NONE;
            }
            packed[count] = word;
            count++;
            return count - 1;
        }
    }

    /** The AXIOMS told, with their words and PARTS. */
    private static final class Ontology {
        final Words names = new Words(MOST_NAMES);
        final Words roles = new Words(MOST_ROLES);
        final int[] partOfName = new int[MOST_NAMES];

        int parts = 0;
        final int[] partKind = new int[MOST_PARTS];
        final int[] partFirst = new int[MOST_PARTS];
        final int[] partSecond = new int[MOST_PARTS];
        final int[] partNames = new int[MOST_PARTS];
        final int[] partRoles = new int[MOST_PARTS];

        int axioms = 0;
        long on = 0;
        final int[] axiomKind = new int[MOST_AXIOMS];
        final int[] axiomFirst = new int[MOST_AXIOMS];
        final int[] axiomSecond = new int[MOST_AXIOMS];
        final int[] axiomThird = new int[MOST_AXIOMS];
        final int[] axiomNames = new int[MOST_AXIOMS];
        final int[] axiomRoles = new int[MOST_AXIOMS];

        Ontology() {
            clear();
        }

        final void clear() {
            names.count = 0;
            roles.count = 0;
            axioms = 0;
            on = 0;
            parts = 0;
            Arrays.fill(partOfName, NONE);
            intern(IS_TOP, NONE, NONE);
            intern(IS_NOTHING, NONE, NONE);
        }

        long allParts() {
            return (1L << parts) - 1L;
        }

        /** The PART that is told so, a new one if there was none; NONE if it would be one too many. */
        int intern(int kind, int first, int second) {
            for (int p = 0; p < parts; p++) {
                if (partKind[p] == kind && partFirst[p] == first && partSecond[p] == second) {
                    return p;
                }
            }
            if (parts >= MOST_PARTS) {
                return NONE;
            }
            int p = parts;
            partKind[p] = kind;
            partFirst[p] = first;
            partSecond[p] = second;
            partNames[p] = 0;
            partRoles[p] = 0;
            if (kind == IS_NAME) {
                partOfName[first] = p;
                partNames[p] = 1 << first;
            } else if (kind == IS_AND) {
                partNames[p] = partNames[first] | partNames[second];
                partRoles[p] = partRoles[first] | partRoles[second];
            } else if (kind == IS_SOME) {
                partNames[p] = partNames[second];
                partRoles[p] = partRoles[second] | 1 << first;
            }
            parts++;
            return p;
        }

        void addConceptAxiom(int kind, int c, int d) {
            addAxiom(kind, c, d, NONE, partNames[c] | partNames[d], partRoles[c] | partRoles[d]);
        }

        void addRoleAxiom(int r, int s, int t) {
            if (t == NONE) {
                addAxiom(ROLES_BELOW, r, s, NONE, 0, 1 << r | 1 << s);
            } else {
                addAxiom(CHAIN, r, s, t, 0, 1 << r | 1 << s | 1 << t);
            }
        }

        private void addAxiom(int kind, int first, int second, int third, int nameSigns, int roleSigns) {
            if (axioms >= MOST_AXIOMS) {
                return;
            }
            axiomKind[axioms] = kind;
            axiomFirst[axioms] = first;
            axiomSecond[axioms] = second;
            axiomThird[axioms] = third;
            axiomNames[axioms] = nameSigns;
            axiomRoles[axioms] = roleSigns;
            on |= 1L << axioms;
            axioms++;
        }
    }

    /** Reads a text word by word and sign by sign; stops at the first FAULT. */
    private static final class Reader {
        static final int END = 0;
        static final int WORD = 1;
        static final int WORD_TOP = 2;
        static final int WORD_NOTHING = 3;
        static final int WORD_SOME = 4;
        static final int OPEN = 5;
        static final int CLOSE = 6;
        static final int AND = 7;
        static final int LESS = 8;
        static final int SAME = 9;
        static final int STAR = 10;
        static final int LESS_LESS = 11;
        static final int SEMICOLON = 12;
        static final int OTHER = 13;

        // The keywords, packed as Words packs them.
        static final long TOP_LETTERS = 0x746F70L;
        static final long SOME_LETTERS = 0x736F6D65L;
        static final long NOTHING_LETTERS = 0x6E6F7468696E67L;

        final byte[] tape;
        int end = 0;
        Ontology target;
        boolean asking = false;

        int at = 0;
        int token = END;
        int start = 0;
        int length = 0;
        long letters = 0;

        int faultKind = 0;
        int faultPlace = NONE;
        boolean tooManyParts = false;
        int first = NONE;
        int second = NONE;

        // What is begun and waits for its last ATOM; each takes a byte at least.
        final int[] frameKind = new int[TAPE_BYTES];
        final int[] frameValue = new int[TAPE_BYTES];
        int frames = 0;
        int brackets = 0;

        Reader(byte[] tape, Ontology target) {
            this.tape = tape;
            this.target = target;
        }

        void open(int end, Ontology target, boolean asking) {
            this.end = end < tape.length ? end : tape.length;
            this.target = target;
            this.asking = asking;
            at = 0;
            faultKind = 0;
            faultPlace = NONE;
            tooManyParts = false;
            step();
        }

        void readAxioms() {
            for (int k = 0; k <= MOST_AXIOMS && faultKind == 0 && token != END; k++) {
                if (!canBegin()) {
                    fail(1, start);
                } else if (token == WORD && length > MOST_LETTERS) {
                    fail(2, start);
                } else if (target.axioms >= MOST_AXIOMS) {
                    fail(3, start);
                } else if (token == WORD && roleSignFollows()) {
                    readRoleAxiom();
                } else {
                    readConceptAxiom();
                }
            }
        }

        void readQuestion() {
            first = readConcept();
            expect(LESS);
            second = faultKind == 0 ? readConcept() : NONE;
            expect(END);
            failIfTooManyParts(0);
        }

        void readSingle() {
            first = readConcept();
            expect(END);
            failIfTooManyParts(0);
        }

        private void readConceptAxiom() {
            int begin = start;
            int c = readConcept();
            int kind = token == SAME ? EQUAL : BELOW;
            expect(kind == EQUAL ? SAME : LESS);
            int d = faultKind == 0 ? readConcept() : NONE;
            expect(SEMICOLON);
            failIfTooManyParts(begin);
            if (faultKind == 0) {
                target.addConceptAxiom(kind, c, d);
            }
        }

        private void readRoleAxiom() {
            int r = readRole();
            int s = NONE;
            boolean chain = token == STAR;
            if (chain) {
                expect(STAR);
                s = readRole();
            }
            expect(LESS_LESS);
            int last = readRole();
            expect(SEMICOLON);
            if (faultKind != 0) {
                return;
            }
            if (chain) {
                target.addRoleAxiom(r, s, last);
            } else {
                target.addRoleAxiom(r, last, NONE);
            }
        }

        /** The PART of a CONCEPT; NONE with a FAULT, or if a PART would be one too many. */
        private int readConcept() {
            frames = 0;
            brackets = 0;
            for (int guard = 0; guard <= TAPE_BYTES && faultKind == 0; guard++) {
                if (token == WORD_SOME) {
                    step();
                    pushFrame(WORD_SOME, readRole());
                } else if (token == OPEN) {
                    openBracket();
                } else {
                    int value = closeFrames(readPlain());
                    if (token != AND) {
                        return value;
                    }
                    pushFrame(AND, value);
                    step();
                }
            }
            return NONE;
        }

        private void openBracket() {
            if (brackets >= MOST_BRACKETS) {
                fail(4, start);
                return;
            }
            brackets++;
            pushFrame(OPEN, NONE);
            step();
        }

        private void pushFrame(int kind, int value) {
            if (frames < frameKind.length && frames < frameValue.length) {
                frameKind[frames] = kind;
                frameValue[frames] = value;
                frames++;
            }
        }

        /** An ATOM has ended: all that waited for it ends, too, over brackets that are closed. */
        private int closeFrames(int atom) {
            int value = atom;
            for (int guard = 0; guard <= TAPE_BYTES && frames > 0 && faultKind == 0; guard++) {
                int kind = frameKind[frames - 1];
                int waiting = frameValue[frames - 1];
                if (kind == WORD_SOME) {
                    value = build(IS_SOME, waiting, value);
                } else if (kind == AND) {
                    value = build(IS_AND, waiting, value);
                } else if (token == CLOSE) {
                    brackets--;
                    step();
                } else {
                    if (token != AND) {
                        fail(1, start);
                    }
                    return value;
                }
                frames--;
            }
            return value;
        }

        private int readPlain() {
            int value = NONE;
            if (token == WORD_TOP) {
                value = TOP;
            } else if (token == WORD_NOTHING) {
                value = NOTHING;
            } else {
                int name = numberOfWord(target.names);
                if (faultKind != 0) {
                    return NONE;
                }
                value = build(IS_NAME, name, NONE);
            }
            step();
            return value;
        }

        private int readRole() {
            int role = numberOfWord(target.roles);
            if (faultKind == 0) {
                step();
            }
            return role;
        }

        private int numberOfWord(Words words) {
            if (token != WORD) {
                fail(1, start);
                return NONE;
            }
            if (length > MOST_LETTERS) {
                fail(2, start);
                return NONE;
            }
            int number = words.find(letters);
            if (number == NONE && asking) {
                fail(6, start);
            } else if (number == NONE) {
                number = words.add(letters);
                if (number == NONE) {
                    fail(3, start);
                }
            }
            return number;
        }

        /** Behind a PART too many the text is read on, for the FAULTS that go first. */
        private int build(int kind, int one, int other) {
            if (tooManyParts || faultKind != 0) {
                return NONE;
            }
            int built = target.intern(kind, one, other);
            tooManyParts = built == NONE;
            return built;
        }

        private void failIfTooManyParts(int place) {
            if (tooManyParts) {
                fail(5, place);
            }
        }

        private void expect(int wanted) {
            if (token != wanted) {
                fail(1, start);
            } else if (faultKind == 0) {
                step();
            }
        }

        /** Only the first FAULT counts; what is read behind it is not looked at. */
        private void fail(int kind, int place) {
            if (faultKind == 0) {
                faultKind = kind;
                faultPlace = place;
            }
        }

        private boolean canBegin() {
            return token == WORD || token == WORD_TOP || token == WORD_NOTHING || token == WORD_SOME || token == OPEN;
        }

        private boolean roleSignFollows() {
            int next = behindBlanks(at);
            return isSign(next, '*') || isSign(next, '<') && isSign(next + 1, '<');
        }

        private boolean isSign(int place, char sign) {
            return place >= 0 && place < end && tape[place] == sign;
        }

        private int behindBlanks(int from) {
            int place = from;
            while (place < end && tape[place] == ' ') {
                place++;
            }
            return place;
        }

        private void step() {
            at = behindBlanks(at);
            start = at;
            length = 0;
            if (at >= end) {
                token = END;
                return;
            }
            letters = 0;
            while (at < end && tape[at] >= 'a' && tape[at] <= 'z') {
                letters = letters << 8 | tape[at];
                at++;
            }
            length = at - start;
            if (length > 0) {
                token = kindOfWord();
                return;
            }
            at++;
            token = kindOfSign(tape[start]);
            if (token == LESS && isSign(at, '<')) {
                at++;
                token = LESS_LESS;
            }
        }

        /** A word of eight letters or more has a highest byte, and so is none of these. */
        private int kindOfWord() {
            if (letters == TOP_LETTERS) {
                return WORD_TOP;
            }
            if (letters == NOTHING_LETTERS) {
                return WORD_NOTHING;
            }
            return letters == SOME_LETTERS ? WORD_SOME : WORD;
        }

        private static int kindOfSign(int sign) {
            switch (sign) {
                case '(': return OPEN;
                case ')': return CLOSE;
                case '&': return AND;
                case '<': return LESS;
                case '=': return SAME;
                case '*': return STAR;
                case ';': return SEMICOLON;
                default: return OTHER;
            }
        }
    }

    /** ABOVE and LINKS by the rules: round by round, or in place where only the end counts. */
    private static final class Saturation {
        Ontology onto;
        long on = 0;
        int parts = 0;
        int roles = 0;
        // Only these X are looked at; of all others nothing is known.
        long active = 0;

        int steps = 0;
        final int[] stepFrom = new int[2 * MOST_AXIOMS];
        final int[] stepTo = new int[2 * MOST_AXIOMS];
        int chains = 0;
        final int[] chainAxiom = new int[MOST_AXIOMS];

        final int[] under = new int[MOST_ROLES];
        final long[] above = new long[MOST_PARTS];
        // holders[Y]: the X in whose ABOVE Y is.
        final long[] holders = new long[MOST_PARTS];
        final long[] links = new long[MOST_PARTS * MOST_ROLES];
        // reach[X, s]: where LINKS from X by ROLES UNDER s go; linked[X]: by any.
        final long[] reach = new long[MOST_PARTS * MOST_ROLES];
        final long[] linked = new long[MOST_PARTS];
        final long[] newAbove = new long[MOST_PARTS];
        final long[] newLinks = new long[MOST_PARTS * MOST_ROLES];

        Saturation(Ontology onto) {
            this.onto = onto;
        }

        /** ROUND 0 of these X, by these AXIOMS. */
        void begin(Ontology onto, long on, long active) {
            this.onto = onto;
            this.on = on;
            this.active = 0;
            parts = onto.parts;
            roles = onto.roles.count;
            sortAxioms();
            Arrays.fill(holders, 0L);
            activate(active);
        }

        private void sortAxioms() {
            steps = 0;
            chains = 0;
            boolean anyPair = false;
            for (int k = 0; k < onto.axioms; k++) {
                if ((on >>> k & 1L) == 0) {
                    continue;
                }
                int kind = onto.axiomKind[k];
                if (kind == CHAIN) {
                    chainAxiom[chains] = k;
                    chains++;
                } else if (kind == ROLES_BELOW) {
                    anyPair = true;
                } else {
                    addStep(onto.axiomFirst[k], onto.axiomSecond[k]);
                    if (kind == EQUAL) {
                        addStep(onto.axiomSecond[k], onto.axiomFirst[k]);
                    }
                }
            }
            for (int r = 0; r < roles; r++) {
                under[r] = 1 << r;
            }
            for (int pass = 0; anyPair && pass <= MOST_ROLES; pass++) {
                anyPair = spreadUnder();
            }
        }

        private void addStep(int from, int to) {
            if (steps < stepFrom.length && steps < stepTo.length) {
                stepFrom[steps] = from;
                stepTo[steps] = to;
                steps++;
            }
        }

        private boolean spreadUnder() {
            boolean more = false;
            for (int k = 0; k < onto.axioms; k++) {
                if ((on >>> k & 1L) == 0 || onto.axiomKind[k] != ROLES_BELOW) {
                    continue;
                }
                for (int r = 0; r < roles; r++) {
                    int all = under[r] | under[onto.axiomSecond[k]];
                    if ((under[r] >>> onto.axiomFirst[k] & 1) != 0 && all != under[r]) {
                        under[r] = all;
                        more = true;
                    }
                }
            }
            return more;
        }

        private void activate(long set) {
            long fresh = set & ~active;
            for (int x = 0; fresh != 0 && x < parts; x++) {
                if ((fresh >>> x & 1L) == 0) {
                    continue;
                }
                above[x] = 1L << x | 1L << TOP;
                holders[x] |= 1L << x;
                holders[TOP] |= 1L << x;
                linked[x] = 0;
                newAbove[x] = 0;
                for (int r = 0; r < roles; r++) {
                    links[x * MOST_ROLES + r] = 0;
                    reach[x * MOST_ROLES + r] = 0;
                    newLinks[x * MOST_ROLES + r] = 0;
                }
            }
            active |= set;
        }

        boolean isVoid(int x) {
            return (above[x] >>> NOTHING & 1L) != 0;
        }

        boolean isBelow(int x, int y) {
            return (above[x] >>> y & 1L) != 0 || isVoid(x);
        }

        int linksFrom(int x) {
            int sum = 0;
            for (int r = 0; r < roles; r++) {
                sum += Long.bitCount(links[x * MOST_ROLES + r]);
            }
            return sum;
        }

        void deriveAll() {
            for (int x = 0; x < parts; x++) {
                derive(x);
            }
        }

        boolean commitAll() {
            boolean more = false;
            for (int x = 0; x < parts; x++) {
                more |= commit(x);
            }
            return more;
        }

        /** All of these X, and all that they are linked to, to the last ROUND. */
        void saturate(Ontology onto, long on, long active) {
            begin(onto, on, active);
            boolean more = true;
            for (int pass = 0; more && pass < MOST_ROUNDS; pass++) {
                more = sweep();
            }
        }

        /** Only what x is linked to, step by step, can have a say in what is above x. */
        boolean entails(Ontology onto, long on, int x, int y) {
            begin(onto, on, 1L << x);
            boolean more = true;
            for (int pass = 0; more && pass < MOST_ROUNDS && !isBelow(x, y); pass++) {
                more = sweep();
            }
            return isBelow(x, y);
        }

        private boolean sweep() {
            boolean more = false;
            for (int x = 0; x < parts; x++) {
                if ((active >>> x & 1L) != 0) {
                    derive(x);
                    more |= commit(x);
                    activate(linked[x]);
                }
            }
            return more;
        }

        /** AXIOMS that had a say in what is known now; with fewer AXIOMS no other one can have. */
        long usedAxioms() {
            int reached = 0;
            for (int x = 0; x < parts; x++) {
                for (int r = 0; r < roles; r++) {
                    if ((active >>> x & 1L) != 0 && reach[x * MOST_ROLES + r] != 0) {
                        reached |= 1 << r;
                    }
                }
            }
            long used = 0;
            for (int k = 0; k < onto.axioms; k++) {
                if ((on >>> k & 1L) != 0 && isUsed(k, reached)) {
                    used |= 1L << k;
                }
            }
            return used;
        }

        private boolean isUsed(int k, int reached) {
            int first = onto.axiomFirst[k];
            int second = onto.axiomSecond[k];
            switch (onto.axiomKind[k]) {
                case BELOW: return holders[first] != 0;
                case EQUAL: return (holders[first] | holders[second]) != 0;
                case ROLES_BELOW: return (reached >>> first & 1) != 0;
                default: return (reached >>> first & reached >>> second & 1) != 0;
            }
        }

        private void derive(int x) {
            long fresh = byAxioms(above[x]) | byParts(x, above[x]);
            if ((linked[x] & holders[NOTHING]) != 0) {
                fresh |= 1L << NOTHING;
            }
            newAbove[x] = fresh & ~above[x];
            if (linked[x] != 0) {
                byChains(x);
            }
        }

        private long byAxioms(long up) {
            long fresh = 0;
            for (int k = 0; k < steps; k++) {
                fresh |= (up >>> stepFrom[k] & 1L) << stepTo[k];
            }
            return fresh;
        }

        private long byParts(int x, long up) {
            long fresh = 0;
            for (int p = 0; p < parts; p++) {
                int kind = onto.partKind[p];
                if (kind < IS_AND) {
                    continue;
                }
                int first = onto.partFirst[p];
                int second = onto.partSecond[p];
                boolean held = (up >>> p & 1L) != 0;
                if (kind == IS_AND) {
                    if (held) {
                        fresh |= 1L << first | 1L << second;
                    } else if ((up >>> first & up >>> second & 1L) != 0) {
                        fresh |= 1L << p;
                    }
                } else if (held) {
                    newLinks[x * MOST_ROLES + first] |= 1L << second;
                } else if ((reach[x * MOST_ROLES + first] & holders[second]) != 0) {
                    fresh |= 1L << p;
                }
            }
            return fresh;
        }

        private void byChains(int x) {
            for (int i = 0; i < chains; i++) {
                int k = chainAxiom[i];
                long middle = reach[x * MOST_ROLES + onto.axiomFirst[k]];
                int second = onto.axiomSecond[k];
                long ends = 0;
                for (int y = 0; middle != 0 && y < parts; y++) {
                    if ((middle >>> y & 1L) != 0) {
                        ends |= reach[y * MOST_ROLES + second];
                    }
                }
                newLinks[x * MOST_ROLES + onto.axiomThird[k]] |= ends;
            }
        }

        private boolean commit(int x) {
            long fresh = newAbove[x];
            boolean more = fresh != 0;
            if (more) {
                above[x] |= fresh;
                newAbove[x] = 0;
                for (int y = 0; y < parts; y++) {
                    holders[y] |= (fresh >>> y & 1L) << x;
                }
            }
            for (int r = 0; r < roles; r++) {
                int place = x * MOST_ROLES + r;
                long ends = newLinks[place] & ~links[place];
                newLinks[place] = 0;
                if (ends != 0) {
                    more = true;
                    links[place] |= ends;
                    linked[x] |= ends;
                    spreadReach(x, r, ends);
                }
            }
            return more;
        }

        private void spreadReach(int x, int r, long ends) {
            for (int s = 0; s < roles; s++) {
                if ((under[r] >>> s & 1) != 0) {
                    reach[x * MOST_ROLES + s] |= ends;
                }
            }
        }

        /** The first rule that brings y into ABOVE(x) from what stands now; NONE if none does. */
        int ruleFor(int x, int y) {
            for (int rule = 1; rule <= 5; rule++) {
                boolean brings = rule == 3 ? joins(x, y) : witnessOf(rule, x, y) != NONE;
                if (brings) {
                    return rule;
                }
            }
            return NONE;
        }

        int witnessOf(int rule, int x, int y) {
            switch (rule) {
                case 1: return leastAxiom(above[x], y);
                case 2: return leastAnd(above[x], y);
                case 4: return onto.partKind[y] != IS_SOME ? NONE : leastPart(
                        reach[x * MOST_ROLES + onto.partFirst[y]] & holders[onto.partSecond[y]]);
                case 5: return y != NOTHING ? NONE : leastPart(linked[x] & holders[NOTHING]);
                default: return NONE;
            }
        }

        private boolean joins(int x, int y) {
            return onto.partKind[y] == IS_AND
                    && (above[x] >>> onto.partFirst[y] & above[x] >>> onto.partSecond[y] & 1L) != 0;
        }

        private int leastAxiom(long up, int y) {
            for (int k = 0; k < onto.axioms; k++) {
                int kind = onto.axiomKind[k];
                if (kind > EQUAL || (on >>> k & 1L) == 0) {
                    continue;
                }
                int c = onto.axiomFirst[k];
                int d = onto.axiomSecond[k];
                boolean forth = d == y && (up >>> c & 1L) != 0;
                boolean back = kind == EQUAL && c == y && (up >>> d & 1L) != 0;
                if (forth || back) {
                    return k;
                }
            }
            return NONE;
        }

        private int leastAnd(long up, int y) {
            for (int p = 0; p < parts; p++) {
                boolean holds = onto.partFirst[p] == y || onto.partSecond[p] == y;
                if (onto.partKind[p] == IS_AND && holds && (up >>> p & 1L) != 0) {
                    return p;
                }
            }
            return NONE;
        }

        private int leastPart(long set) {
            for (int p = 0; p < parts; p++) {
                if ((set >>> p & 1L) != 0) {
                    return p;
                }
            }
            return NONE;
        }
    }

    /** The NODES of the NAMES and how they lie. */
    private static final class Hierarchy {
        int nodes = 0;
        int voidNames = 0;
        final int[] nodeOfName = new int[MOST_NAMES];
        final int[] partOfNode = new int[MOST_NAMES];
        final int[] namesOf = new int[MOST_NAMES];
        // over[N]: all NODES that N is below, not itself.
        final int[] over = new int[MOST_NAMES];
        final int[] parents = new int[MOST_NAMES];
        final int[] depths = new int[MOST_NAMES];

        void build(Ontology onto, Saturation facts) {
            nodes = 0;
            voidNames = 0;
            for (int name = 0; name < onto.names.count; name++) {
                int p = onto.partOfName[name];
                if (facts.isVoid(p)) {
                    voidNames |= 1 << name;
                    nodeOfName[name] = NONE;
                } else if (facts.isBelow(TOP, p)) {
                    nodeOfName[name] = TOP_NODE;
                } else {
                    place(facts, name, p);
                }
            }
            for (int n = 0; n < nodes; n++) {
                over[n] = 0;
                for (int m = 0; m < nodes; m++) {
                    if (m != n && facts.isBelow(partOfNode[n], partOfNode[m])) {
                        over[n] |= 1 << m;
                    }
                }
            }
            layParents();
        }

        private void place(Saturation facts, int name, int p) {
            int n = 0;
            while (n < nodes && !(facts.isBelow(p, partOfNode[n]) && facts.isBelow(partOfNode[n], p))) {
                n++;
            }
            if (n == nodes) {
                partOfNode[n] = p;
                namesOf[n] = 0;
                nodes++;
            }
            namesOf[n] |= 1 << name;
            nodeOfName[name] = n;
        }

        private void layParents() {
            for (int n = 0; n < nodes; n++) {
                int further = 0;
                for (int m = 0; m < nodes; m++) {
                    if ((over[n] >>> m & 1) != 0) {
                        further |= over[m];
                    }
                }
                parents[n] = over[n] & ~further;
            }
        }

        int childrenOf(int node) {
            int children = 0;
            for (int n = 0; n < nodes; n++) {
                children |= (parents[n] >>> node & 1) << n;
            }
            return children;
        }

        int allUnder(int node) {
            int all = 0;
            for (int n = 0; n < nodes; n++) {
                all |= (over[n] >>> node & 1) << n;
            }
            return all;
        }

        /** Each pass makes at least one NODE more right: those whose PARENTS all are. */
        int depth(int node) {
            Arrays.fill(depths, 1);
            for (int pass = 0; pass < nodes; pass++) {
                for (int n = 0; n < nodes; n++) {
                    for (int m = 0; m < nodes; m++) {
                        if ((parents[n] >>> m & 1) != 0 && depths[n] <= depths[m]) {
                            depths[n] = depths[m] + 1;
                        }
                    }
                }
            }
            return depths[node];
        }

        int commonOf(int a, int b) {
            int both = nodesOver(a) & nodesOver(b);
            int further = 0;
            for (int n = 0; n < nodes; n++) {
                if ((both >>> n & 1) != 0) {
                    further |= over[n];
                }
            }
            return both & ~further;
        }

        private int nodesOver(int name) {
            int n = nodeOfName[name];
            return n < 0 ? 0 : over[n] | 1 << n;
        }
    }

    /** Which AXIOMS it takes that one NAME is below another one. */
    private static final class Reasons {
        // One more than may be told shows that there are TOO MANY.
        final long[] found = new long[MOST_REASONS + 1];
        int count = 0;
        boolean known = false;

        final Saturation facts;
        Ontology onto;
        int lower = NONE;
        int upper = NONE;
        boolean aimed = false;
        boolean isSo = false;
        // Of the AXIOMS that are ON those that can have a say.
        long base = 0;

        Reasons(Saturation facts) {
            this.facts = facts;
            this.onto = facts.onto;
        }

        void forget() {
            aimed = false;
        }

        void aim(Ontology onto, int lower, int upper) {
            if (aimed && lower == this.lower && upper == this.upper) {
                return;
            }
            this.onto = onto;
            this.lower = lower;
            this.upper = upper;
            facts.saturate(onto, onto.on, 1L << lower);
            isSo = facts.isBelow(lower, upper);
            base = facts.usedAxioms();
            aimed = true;
            known = false;
        }

        private boolean holds(long axioms) {
            return facts.entails(onto, axioms, lower, upper);
        }

        long neededAlone() {
            long needed = 0;
            for (int k = 0; isSo && k < onto.axioms; k++) {
                long without = base & ~(1L << k);
                if (without != base && !holds(without)) {
                    needed |= 1L << k;
                }
            }
            return needed;
        }

        /** Leaves out what can be, from AXIOM 0 on. */
        long shrink(long axioms) {
            long left = axioms;
            for (int k = 0; k < onto.axioms; k++) {
                long without = left & ~(1L << k);
                if (without != left && holds(without)) {
                    left = without;
                }
            }
            return left;
        }

        /** A REASON not found yet lies free of some least set that meets all found ones. */
        void findAll() {
            if (known) {
                return;
            }
            known = true;
            count = 0;
            long out = isSo ? 0L : NONE;
            for (int k = 0; k <= MOST_REASONS && out != NONE; k++) {
                found[k] = shrink(base & ~out);
                count = k + 1;
                out = k < MOST_REASONS ? freeing(0, 0L, 0L) : NONE;
            }
            sortFound();
        }

        /** A least set that meets all found, from a level on, without which it is still so; or NONE. */
        private long freeing(int level, long out, long barred) {
            if (hasIdle(out)) {
                return NONE;
            }
            if (level >= count) {
                return holds(base & ~out) ? out : NONE;
            }
            if ((found[level] & out) != 0) {
                return freeing(level + 1, out, barred);
            }
            long tried = barred;
            for (int k = 0; k < onto.axioms; k++) {
                long bit = 1L << k;
                if ((found[level] & bit) != 0 && (tried & bit) == 0) {
                    long free = freeing(level + 1, out | bit, tried);
                    if (free != NONE) {
                        return free;
                    }
                    tried |= bit;
                }
            }
            return NONE;
        }

        /** Whether one of the AXIOMS is the only one out in no set found: then a lesser set is tried as well. */
        private boolean hasIdle(long out) {
            long alone = 0;
            for (int k = 0; k < count; k++) {
                long met = found[k] & out;
                if ((met & met - 1L) == 0) {
                    alone |= met;
                }
            }
            return alone != out;
        }

        private void sortFound() {
            for (int k = 1; k < count; k++) {
                for (int i = k; i > 0 && found[i] < found[i - 1]; i--) {
                    long greater = found[i - 1];
                    found[i - 1] = found[i];
                    found[i] = greater;
                }
            }
        }

        long leastCut() {
            for (int size = 1; size <= MOST_REASONS; size++) {
                long cut = cutOf(0, size, 0L);
                if (cut != NONE) {
                    return cut;
                }
            }
            return NONE;
        }

        private long cutOf(int level, int left, long out) {
            if (level >= count) {
                return out;
            }
            if ((found[level] & out) != 0) {
                return cutOf(level + 1, left, out);
            }
            long best = NONE;
            for (int k = 0; left > 0 && k < onto.axioms; k++) {
                if ((found[level] >>> k & 1L) != 0) {
                    long cut = cutOf(level + 1, left - 1, out | 1L << k);
                    if (cut != NONE && (best == NONE || cut < best)) {
                        best = cut;
                    }
                }
            }
            return best;
        }
    }

    /** MODULES, by what is LOST and FULL for the SIGNS so far. */
    private static final class Modules {
        long lost = 0;
        long full = 0;

        long ofAxiom(Ontology onto, int k) {
            return cut(onto, onto.on, onto.axiomNames[k], onto.axiomRoles[k], false);
        }

        long inTurn(Ontology onto, int names, int roles) {
            long axioms = onto.on;
            boolean more = true;
            for (int pass = 0; more && pass <= MOST_AXIOMS; pass++) {
                long before = axioms;
                axioms = cut(onto, axioms, names, roles, false);
                axioms = cut(onto, axioms, names, roles, true);
                more = axioms != before;
            }
            return axioms;
        }

        long cut(Ontology onto, long among, int names, int roles, boolean fromAbove) {
            int nameSigns = names;
            int roleSigns = roles;
            long in = 0;
            boolean more = true;
            for (int pass = 0; more && pass <= MOST_AXIOMS; pass++) {
                mark(onto, nameSigns, roleSigns, fromAbove);
                more = false;
                for (int k = 0; k < onto.axioms; k++) {
                    boolean free = ((among & ~in) >>> k & 1L) != 0;
                    if (free && !isIdle(onto, k, roleSigns, fromAbove)) {
                        in |= 1L << k;
                        more = true;
                    }
                }
                for (int k = 0; more && k < onto.axioms; k++) {
                    if ((in >>> k & 1L) != 0) {
                        nameSigns |= onto.axiomNames[k];
                        roleSigns |= onto.axiomRoles[k];
                    }
                }
            }
            return in;
        }

        /** What is within a PART has a lesser number, so it is marked ahead of it. */
        private void mark(Ontology onto, int names, int roles, boolean fromAbove) {
            lost = 0;
            full = 0;
            for (int p = 0; p < onto.parts; p++) {
                int first = onto.partFirst[p];
                int second = onto.partSecond[p];
                boolean isLost = false;
                boolean isFull = false;
                switch (onto.partKind[p]) {
                    case IS_TOP:
                        isFull = true;
                        break;
                    case IS_NOTHING:
                        isLost = true;
                        break;
                    case IS_NAME:
                        isLost = !fromAbove && (names >>> first & 1) == 0;
                        isFull = fromAbove && (names >>> first & 1) == 0;
                        break;
                    case IS_AND:
                        isLost = isMarked(lost, first) || isMarked(lost, second);
                        isFull = isMarked(full, first) && isMarked(full, second);
                        break;
                    default:
                        boolean foreign = (roles >>> first & 1) == 0;
                        isLost = isMarked(lost, second) || !fromAbove && foreign;
                        isFull = fromAbove && foreign && isMarked(full, second);
                        break;
                }
                lost |= isLost ? 1L << p : 0L;
                full |= isFull ? 1L << p : 0L;
            }
        }

        private static boolean isMarked(long marks, int p) {
            return (marks >>> p & 1L) != 0;
        }

        private boolean isIdle(Ontology onto, int k, int roles, boolean fromAbove) {
            int first = onto.axiomFirst[k];
            int second = onto.axiomSecond[k];
            switch (onto.axiomKind[k]) {
                case BELOW: return isIdleBelow(first, second);
                case EQUAL: return isIdleBelow(first, second) && isIdleBelow(second, first);
                case ROLES_BELOW: return (roles >>> (fromAbove ? second : first) & 1) == 0;
                default: break;
            }
            if (fromAbove) {
                return (roles >>> onto.axiomThird[k] & 1) == 0;
            }
            return (roles >>> first & roles >>> second & 1) == 0;
        }

        private boolean isIdleBelow(int c, int d) {
            return isMarked(lost, c) || isMarked(full, d);
        }
    }
}
