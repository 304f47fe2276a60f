import java.util.ArrayList;
import java.util.HashMap;
import java.util.HashSet;
import java.util.List;
import java.util.Map;
import java.util.Random;
import java.util.Set;
import java.util.TreeSet;

/**
 * NEEDED, ENOUGH, REASONS and REPAIR of texts with up to 32 AXIOMS, where not all sets can be tried (NaiveModelTest tries
 * all of nine at most): beside a plain search that asks nothing but below() of objects with the other AXIOMS turned OFF.
 */
public final class ReasonsTest extends Checks {
    private static final int MOST_ASKED = 3000;

    private final String text;
    private final int axioms;
    private final int lower;
    private final int upper;
    private final Map<Long, Boolean> known = new HashMap<>();

    private ReasonsTest(String text, int axioms, int lower, int upper) {
        this.text = text;
        this.axioms = axioms;
        this.lower = lower;
        this.upper = upper;
    }

    /** Whether it is so by these AXIOMS alone. */
    private boolean isSo(long on) {
        Boolean so = known.get(on);
        if (so == null) {
            LightClassifier x = with(text);
            for (int k = 0; k < axioms; k++) {
                if ((on >>> k & 1) == 0) {
                    x.turn(k);
                }
            }
            so = x.below(x.named(lower), x.named(upper));
            known.put(on, so);
        }
        return so;
    }

    private long all() {
        return (1L << axioms) - 1;
    }

    /** A REASON within a set by which it is so; AXIOMS are left out from the last one on, other than ENOUGH does it. */
    private long reasonWithin(long on) {
        long left = on;
        for (int k = axioms - 1; k >= 0; k--) {
            if (isSo(left & ~(1L << k))) {
                left &= ~(1L << k);
            }
        }
        return left;
    }

    /** All REASONS, or five of them; null if that takes too many questions. */
    private TreeSet<Long> reasons() {
        TreeSet<Long> found = new TreeSet<>();
        Set<Long> seen = new HashSet<>();
        List<Long> left = new ArrayList<>();
        left.add(0L);
        while (!left.isEmpty() && found.size() < 5) {
            long out = left.remove(left.size() - 1);
            if (!seen.add(out) || !isSo(all() & ~out)) {
                continue;
            }
            if (known.size() > MOST_ASKED) {
                return null;
            }
            long reason = NONE;
            for (long one : found) {
                reason = (one & out) == 0 ? one : reason;
            }
            if (reason == NONE) {
                reason = reasonWithin(all() & ~out);
                found.add(reason);
            }
            for (int k = 0; k < axioms; k++) {
                if ((reason >>> k & 1) != 0) {
                    left.add(out | 1L << k);
                }
            }
        }
        return found;
    }

    private long needed() {
        long needed = 0;
        for (int k = 0; isSo(all()) && k < axioms; k++) {
            needed |= isSo(all() & ~(1L << k)) ? 0 : 1L << k;
        }
        return needed;
    }

    private long enough() {
        long left = all();
        for (int k = 0; k < axioms; k++) {
            if (isSo(left & ~(1L << k))) {
                left &= ~(1L << k);
            }
        }
        return isSo(all()) ? left : NONE;
    }

    /** One AXIOM of each REASON is taken in all ways. */
    private long repair(TreeSet<Long> reasons) {
        if (reasons.isEmpty() || reasons.size() > 4 || reasons.first() == 0) {
            return reasons.isEmpty() ? NONE : reasons.size() > 4 ? -3 : -2;
        }
        TreeSet<Long> cuts = new TreeSet<>(List.of(0L));
        for (long reason : reasons) {
            TreeSet<Long> more = new TreeSet<>();
            for (long cut : cuts) {
                for (int k = 0; k < axioms; k++) {
                    if ((reason >>> k & 1) != 0) {
                        more.add(cut | 1L << k);
                    }
                }
            }
            cuts = more;
        }
        long best = cuts.first();
        for (long cut : cuts) {
            best = Long.bitCount(cut) < Long.bitCount(best) ? cut : best;
        }
        return best;
    }

    /** Says how many REASONS there were (5: TOO MANY), or NONE if they were not searched for to the end. */
    private int compare() {
        LightClassifier x = with(text);
        String what = lower + ", " + upper + " of " + text;
        due("needed " + what, x.needed(lower, upper), needed());
        due("enough " + what, x.enough(lower, upper), enough());
        TreeSet<Long> reasons = reasons();
        if (reasons == null) {
            return NONE;
        }
        boolean many = reasons.size() > 4;
        due("how many REASONS " + what, x.reason(lower, upper, NONE), many ? -3 : reasons.size());
        List<Long> inOrder = new ArrayList<>(reasons);
        for (int k = 0; k <= reasons.size(); k++) {
            due("REASON " + k + " " + what, x.reason(lower, upper, k), many || k == inOrder.size() ? NONE : inOrder.get(k));
        }
        due("repair " + what, x.repair(lower, upper), repair(reasons));
        return reasons.size();
    }

    private static String letter(Random random, int most) {
        return String.valueOf((char) ('a' + random.nextInt(most)));
    }

    private static String axiom(Random random, int names, int roles, boolean plain) {
        String a = letter(random, names);
        String b = letter(random, names);
        String r = letter(random, roles);
        switch (plain ? 0 : random.nextInt(11)) {
            case 0: case 1: case 2: return a + "<" + b + ";";
            case 3: case 4: return a + "<some " + r + " " + b + ";";
            case 5: case 6: return "some " + r + " " + a + "<" + b + ";";
            case 7: return a + "&" + b + "<" + letter(random, names) + ";";
            case 8: return r + "<<" + letter(random, roles) + ";";
            case 9: return r + "*" + letter(random, roles) + "<<" + letter(random, roles) + ";";
            default: return a + "=" + b + ";";
        }
    }

    private static String ontology(Random random) {
        int names = 5 + random.nextInt(18);
        int roles = 1 + random.nextInt(4);
        int most = 10 + random.nextInt(23);
        boolean plain = random.nextInt(4) == 0;
        StringBuilder s = new StringBuilder();
        for (int k = 0; k < most && s.length() < 380; k++) {
            s.append(axiom(random, names, roles, plain));
        }
        return s.toString();
    }

    /** Four ways of eight AXIOMS: as many sets as there can be that meet all REASONS. */
    private static final String FOUR_WAYS = "a<c;c<d;d<e;e<f;f<g;g<h;h<some r a;some r a<z;"
        + "a<i;i<j;j<k;k<l;l<m;m<some s a;some s a<some t a;some t a<z;"
        + "a<o;o<p;p<q;q<r;r<some t t;some t t<some u t;some u t<some v t;some v t<z;"
        + "a<u;u<v;v<w;w<x;x<some w t;some w t<some y t;some y t<some z t;some z t<z;";

    private static void fourWays() {
        LightClassifier x = with(FOUR_WAYS);
        int z = name(x, 'z');
        due("AXIOMS", x.told(0), 32);
        due("REASONS", x.reason(0, z, NONE), 4);
        for (int k = 0; k < 4; k++) {
            due("REASON " + k, x.reason(0, z, k), 255L << 8 * k);
        }
        due("repair", x.repair(0, z), 0x01010101);
    }

    public static void main(String[] args) {
        fourWays();
        int from = args.length > 0 ? Integer.parseInt(args[0]) : 0;
        int to = args.length > 1 ? Integer.parseInt(args[1]) : 200;
        int[] seen = new int[7];
        for (int run = from; run < to; run++) {
            Random random = new Random(run * 104729L + 5);
            String text = ontology(random);
            LightClassifier x = new LightClassifier();
            int axioms = tell(x, text);
            for (int k = 0; axioms > 0 && k < 12; k++) {
                int lower = random.nextInt(x.told(2));
                int upper = random.nextInt(x.told(2));
                // Most pairs that are not below each other are passed over.
                if (lower != upper && (k == 0 || x.below(x.named(lower), x.named(upper)))) {
                    seen[new ReasonsTest(text, axioms, lower, upper).compare() + 1]++;
                }
            }
        }
        for (int count = 0; count <= 5 && args.length == 0; count++) {
            due("some with " + count + " REASONS", seen[count + 1] > 0, true);
        }
        System.out.println("pairs with 0 to 4 and more REASONS: " + seen[1] + " " + seen[2] + " " + seen[3] + " " + seen[4] + " " + seen[5] + " " + seen[6]
            + ", not searched to the end: " + seen[0]);
        end();
    }
}
