import java.util.ArrayList;
import java.util.Arrays;
import java.util.BitSet;
import java.util.HashMap;
import java.util.LinkedHashMap;
import java.util.List;
import java.util.Map;
import java.util.function.IntToLongFunction;

/**
 * Every group of rearrangements of six places that there is, with one, two and three colours: all
 * questions are asked of it, and the name and size of each colouring and whether it is like the one
 * turned by a place. What is due comes from what the single rearrangements leave as it is (a number
 * of kinds is the mean of such numbers over the group), so no kind is ever counted here.
 */
public final class GroupsTest {
    // Known from the books; if it is met, no group was missed.
    private static final int GROUPS = 1455;
    private static final int COLOURINGS_PER_OBJECT = 160;
    private static final int MOST_TOLD = 40;
    private static final int[] FACTORIAL = {1, 1, 2, 6, 24, 120, 720};

    private static final List<int[]> REARRANGEMENTS = new ArrayList<>();
    private static final Map<Integer, Integer> INDEX = new HashMap<>();
    private static int[][] product;
    private static int[][] cycleLengths;

    private static int wrong = 0;

    private static int code(int[] carried) {
        int code = 0;
        for (int place = 5; place >= 0; place--) {
            code = 6 * code + carried[place];
        }
        return code;
    }

    private static void listRearrangements(int[] carried, int place) {
        if (place == 6) {
            INDEX.put(code(carried), REARRANGEMENTS.size());
            REARRANGEMENTS.add(carried.clone());
            return;
        }
        for (int to = 0; to < 6; to++) {
            int wanted = to;
            if (Arrays.stream(carried, 0, place).noneMatch(taken -> taken == wanted)) {
                carried[place] = to;
                listRearrangements(carried, place + 1);
            }
        }
    }

    private static void workOutTables() {
        listRearrangements(new int[6], 0);
        product = new int[720][720];
        cycleLengths = new int[720][];
        for (int g = 0; g < 720; g++) {
            cycleLengths[g] = lengths(REARRANGEMENTS.get(g));
            for (int h = 0; h < 720; h++) {
                int[] both = new int[6];
                for (int place = 0; place < 6; place++) {
                    both[place] = REARRANGEMENTS.get(h)[REARRANGEMENTS.get(g)[place]];
                }
                product[g][h] = INDEX.get(code(both));
            }
        }
    }

    private static int[] lengths(int[] carried) {
        List<Integer> lengths = new ArrayList<>();
        boolean[] seen = new boolean[6];
        for (int place = 0; place < 6; place++) {
            int length = 0;
            for (int at = place; !seen[at]; at = carried[at]) {
                seen[at] = true;
                length++;
            }
            if (length > 0) {
                lengths.add(length);
            }
        }
        return lengths.stream().mapToInt(length -> length).toArray();
    }

    private static BitSet closed(int[] generators) {
        BitSet group = new BitSet(720);
        // Starts with the identity, which is the first in the list.
        int[] open = new int[720];
        int count = 1;
        group.set(open[0]);
        for (int i = 0; i < count; i++) {
            for (int generator : generators) {
                int next = product[open[i]][generator];
                if (!group.get(next)) {
                    group.set(next);
                    open[count++] = next;
                }
            }
        }
        return group;
    }

    /** The groups, each with generators, as few as can be. */
    private static Map<BitSet, int[]> allGroups() {
        Map<BitSet, int[]> groups = new LinkedHashMap<>();
        groups.put(closed(new int[0]), new int[0]);
        // One of the rearrangements that make the same group by themselves stands for all of them.
        Map<BitSet, Integer> cyclic = new LinkedHashMap<>();
        for (int g = 0; g < 720; g++) {
            cyclic.putIfAbsent(closed(new int[] {g}), g);
        }
        for (int generatorCount = 1; generatorCount <= 3; generatorCount++) {
            for (Map.Entry<BitSet, int[]> known : List.copyOf(groups.entrySet())) {
                if (known.getValue().length == generatorCount - 1) {
                    enlarge(known.getKey(), known.getValue(), cyclic, groups);
                }
            }
        }
        return groups;
    }

    private static void enlarge(BitSet group, int[] generators, Map<BitSet, Integer> cyclic, Map<BitSet, int[]> groups) {
        for (int g : cyclic.values()) {
            if (!group.get(g)) {
                int[] more = Arrays.copyOf(generators, generators.length + 1);
                more[generators.length] = g;
                groups.putIfAbsent(closed(more), more);
            }
        }
    }

    private static ColourKinds object(int[] generators, int c) {
        ColourKinds x = new ColourKinds();
        for (int i = 0; i < generators.length; i++) {
            due(generators, c, "add", x.add(code(REARRANGEMENTS.get(generators[i]))), i + 1);
        }
        due(generators, c, "colours", x.colours(c), 2);
        return x;
    }

    private static void due(int[] generators, int c, String call, long got, long want) {
        if (got == want) {
            return;
        }
        wrong++;
        if (wrong <= MOST_TOLD) {
            int[] codes = Arrays.stream(generators).map(g -> code(REARRANGEMENTS.get(g))).toArray();
            System.out.println("generators " + Arrays.toString(codes) + ", " + c + " colours: " + call
                + " answered " + got + ", due is " + want);
        }
    }

    /** The number of kinds of what each rearrangement of the group leaves so many of as they are. */
    private static long kindsOf(BitSet group, IntToLongFunction left) {
        return group.stream().mapToLong(left).sum() / group.cardinality();
    }

    private static long power(long base, int exponent) {
        return exponent == 0 ? 1 : base * power(base, exponent - 1);
    }

    private static long kinds(BitSet group, int c) {
        return kindsOf(group, g -> power(c, cycleLengths[g].length));
    }

    private static long kindsWithAll(BitSet group, int c) {
        long kinds = 0;
        for (int used = 1; used <= c; used++) {
            long choices = FACTORIAL[c] / FACTORIAL[used] / FACTORIAL[c - used];
            kinds += ((c - used) % 2 == 0 ? choices : -choices) * kinds(group, used);
        }
        return kinds;
    }

    /** The ways to give the cycles from the given one on a colour each, so that m places have colour 0 and n colour 1. */
    private static long ways(int[] lengths, int from, int c, int m, int n) {
        if (m < 0 || n < 0) {
            return 0;
        }
        if (from == lengths.length) {
            return m == 0 && n == 0 ? 1 : 0;
        }
        long ways = ways(lengths, from + 1, c, m - lengths[from], n);
        if (c > 1) {
            ways += ways(lengths, from + 1, c, m, n - lengths[from]);
        }
        if (c > 2) {
            ways += ways(lengths, from + 1, c, m, n);
        }
        return ways;
    }

    /** The colourings that are as before when g and the exchange of the colours 0 and 1 are done. */
    private static long exchangedBack(int[] lengths, int c) {
        long colourings = 1;
        for (int length : lengths) {
            colourings *= length % 2 == 0 ? c : c - 2;
        }
        return colourings;
    }

    private static long placesLeft(int[] lengths) {
        return Arrays.stream(lengths).filter(length -> length == 1).count();
    }

    private static long pairsLeft(int[] lengths) {
        long places = placesLeft(lengths);
        return places * (places - 1) / 2 + Arrays.stream(lengths).filter(length -> length == 2).count();
    }

    private static void questions(BitSet group, int[] generators, int c) {
        ColourKinds x = object(generators, c);
        long orbits = kindsOf(group, g -> placesLeft(cycleLengths[g]));
        due(generators, c, "order()", x.order(), group.cardinality());
        due(generators, c, "kinds()", x.kinds(), kinds(group, c));
        due(generators, c, "kindsWithAll()", x.kindsWithAll(), kindsWithAll(group, c));
        due(generators, c, "still()", x.still(), power(c, (int) orbits));
        long self = c == 1 ? 1 : kindsOf(group, g -> exchangedBack(cycleLengths[g], c));
        due(generators, c, "selfExchanged()", x.selfExchanged(), self);
        due(generators, c, "orbits()", x.orbits(), orbits);
        due(generators, c, "pairKinds()", x.pairKinds(), kindsOf(group, g -> pairsLeft(cycleLengths[g])));
        for (int k = 0; k <= 7; k++) {
            int cycles = k;
            long with = group.stream().filter(g -> cycleLengths[g].length == cycles).count();
            due(generators, c, "withCycles(" + k + ")", x.withCycles(k), with);
        }
        for (int m = 0; m <= 6; m++) {
            for (int n = 0; n <= 6; n++) {
                int zeros = m;
                int ones = n;
                long kinds = kindsOf(group, g -> ways(cycleLengths[g], 0, c, zeros, ones));
                due(generators, c, "kindsWith(" + m + ", " + n + ")", x.kindsWith(m, n), kinds);
            }
        }
    }

    private static int numberAfter(int[] carried, int[] colours, int[] power) {
        int number = 0;
        for (int place = 0; place < 6; place++) {
            number += colours[place] * power[carried[place]];
        }
        return number;
    }

    private static void colourings(BitSet group, int[] generators, int c) {
        int[] power = new int[7];
        for (int place = 0; place <= 6; place++) {
            power[place] = (int) power(c, place);
        }
        int[] name = new int[power[6]];
        int[] size = new int[power[6]];
        for (int colouring = 0; colouring < power[6]; colouring++) {
            int[] colours = new int[6];
            for (int place = 0; place < 6; place++) {
                colours[place] = colouring / power[place] % c;
            }
            int left = 0;
            name[colouring] = colouring;
            for (int g = group.nextSetBit(0); g >= 0; g = group.nextSetBit(g + 1)) {
                int made = numberAfter(REARRANGEMENTS.get(g), colours, power);
                name[colouring] = Math.min(name[colouring], made);
                left += made == colouring ? 1 : 0;
            }
            size[colouring] = group.cardinality() / left;
        }
        askColourings(generators, c, name, size);
    }

    private static void askColourings(int[] generators, int c, int[] name, int[] size) {
        ColourKinds x = null;
        for (int colouring = 0; colouring < name.length; colouring++) {
            if (colouring % COLOURINGS_PER_OBJECT == 0) {
                x = object(generators, c);
            }
            // Turned by a place, which many groups do.
            int other = (c * colouring + colouring / (name.length / c)) % name.length;
            int got = x.alike(colouring, other) ? 1 : 0;
            int want = name[colouring] == name[other] ? 1 : 0;
            due(generators, c, "alike(" + colouring + ", " + other + ")", got, want);
            due(generators, c, "name(" + colouring + ")", x.name(colouring), name[colouring]);
            due(generators, c, "size(" + colouring + ")", x.size(colouring), size[colouring]);
        }
    }

    public static void main(String[] args) {
        workOutTables();
        Map<BitSet, int[]> groups = allGroups();
        if (groups.size() != GROUPS) {
            wrong++;
            System.out.println("the test itself found " + groups.size() + " groups of " + GROUPS);
        }
        for (Map.Entry<BitSet, int[]> entry : groups.entrySet()) {
            for (int c = 1; c <= 3; c++) {
                questions(entry.getKey(), entry.getValue(), c);
                colourings(entry.getKey(), entry.getValue(), c);
            }
        }
        System.out.println(wrong == 0
            ? "all answers are as due, for each of " + groups.size() + " groups"
            : wrong + " answers are not as due");
        if (wrong != 0) {
            System.exit(1);
        }
    }
}
