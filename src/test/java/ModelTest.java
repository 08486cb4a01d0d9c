import java.util.ArrayDeque;
import java.util.ArrayList;
import java.util.Collections;
import java.util.Deque;
import java.util.HashMap;
import java.util.HashSet;
import java.util.List;
import java.util.Map;
import java.util.Random;
import java.util.Set;
import java.util.TreeSet;

/**
 * Long runs of calls, the same in every run of the test, each answer compared with that of a model.
 * The model takes other ways than the class: it floods from the generators instead of using the
 * group, counts kinds by the fixed colourings, and holds sets instead of tables.
 */
public final class ModelTest {
    private static final int CALLS_PROMISED = 512;
    private static final int RUNS = 60;

    private static int wrong = 0;

    /** What the document says, over lists and sets. */
    private static final class Model {
        final List<List<Integer>> generators = new ArrayList<>();
        int c = 2;
        private Set<List<Integer>> group;
        private Map<List<Integer>, Set<List<Integer>>> kindOf;

        private void changed() {
            group = null;
            kindOf = null;
        }

        int add(int g) {
            List<Integer> places = digits(g, 6);
            if (places == null || new HashSet<>(places).size() < 6) {
                return -1;
            }
            if (generators.size() == 3) {
                return -2;
            }
            generators.add(places);
            changed();
            return generators.size();
        }

        int remove() {
            if (generators.isEmpty()) {
                return -4;
            }
            changed();
            return number(generators.remove(generators.size() - 1), 6);
        }

        int colours(int n) {
            if (n < 1 || n > 3) {
                return -1;
            }
            int before = c;
            c = n;
            changed();
            return before;
        }

        // Puts each generator before what is there already, where the class puts it after.
        Set<List<Integer>> group() {
            if (group == null) {
                group = new HashSet<>();
                Deque<List<Integer>> open = new ArrayDeque<>();
                open.add(List.of(0, 1, 2, 3, 4, 5));
                while (!open.isEmpty()) {
                    List<Integer> g = open.pop();
                    if (group.add(g)) {
                        for (List<Integer> h : generators) {
                            List<Integer> product = new ArrayList<>();
                            for (int place : h) {
                                product.add(g.get(place));
                            }
                            open.push(product);
                        }
                    }
                }
            }
            return group;
        }

        static int cycles(List<Integer> g) {
            Set<Integer> seen = new HashSet<>();
            int count = 0;
            for (int place = 0; place < 6; place++) {
                if (!seen.contains(place)) {
                    count++;
                }
                for (int at = place; seen.add(at); ) {
                    at = g.get(at);
                }
            }
            return count;
        }

        int withCycles(int k) {
            return (int) group().stream().filter(g -> cycles(g) == k).count();
        }

        int kinds() {
            int fixed = 0;
            for (List<Integer> g : group()) {
                fixed += (int) Math.pow(c, cycles(g));
            }
            return fixed / group().size();
        }

        static List<Integer> done(List<Integer> g, List<Integer> colouring) {
            List<Integer> made = new ArrayList<>(Collections.nCopies(6, 0));
            for (int place = 0; place < 6; place++) {
                made.set(g.get(place), colouring.get(place));
            }
            return made;
        }

        Map<List<Integer>, Set<List<Integer>>> kindOf() {
            if (kindOf == null) {
                kindOf = new HashMap<>();
                for (int k = 0; k < Math.pow(c, 6); k++) {
                    List<Integer> first = digits(k, c);
                    if (!kindOf.containsKey(first)) {
                        flood(first);
                    }
                }
            }
            return kindOf;
        }

        private void flood(List<Integer> first) {
            Set<List<Integer>> kind = new HashSet<>();
            Deque<List<Integer>> open = new ArrayDeque<>();
            open.add(first);
            while (!open.isEmpty()) {
                List<Integer> colouring = open.pop();
                if (kind.add(colouring)) {
                    kindOf.put(colouring, kind);
                    for (List<Integer> g : generators) {
                        open.push(done(g, colouring));
                    }
                }
            }
        }

        Set<Set<List<Integer>>> allKinds() {
            return new HashSet<>(kindOf().values());
        }

        int kindsWith(int m, int n) {
            return (int) allKinds().stream().map(kind -> kind.iterator().next())
                .filter(k -> Collections.frequency(k, 0) == m && Collections.frequency(k, 1) == n).count();
        }

        int kindsWithAll() {
            return (int) allKinds().stream().filter(kind -> new HashSet<>(kind.iterator().next()).size() == c).count();
        }

        private Set<List<Integer>> kind(int colouring) {
            List<Integer> digits = digits(colouring, c);
            return digits == null ? null : kindOf().get(digits);
        }

        int name(int colouring) {
            Set<List<Integer>> kind = kind(colouring);
            if (kind == null) {
                return -4;
            }
            Set<Integer> numbers = new TreeSet<>();
            for (List<Integer> k : kind) {
                numbers.add(number(k, c));
            }
            return numbers.iterator().next();
        }

        int size(int colouring) {
            Set<List<Integer>> kind = kind(colouring);
            return kind == null ? -4 : kind.size();
        }

        boolean alike(int colouring, int other) {
            Set<List<Integer>> kind = kind(colouring);
            return kind != null && kind == kind(other);
        }

        int still() {
            return (int) allKinds().stream().filter(kind -> kind.size() == 1).count();
        }

        int selfExchanged() {
            int count = 0;
            for (Set<List<Integer>> kind : allKinds()) {
                Set<List<Integer>> exchanged = new HashSet<>();
                for (List<Integer> k : kind) {
                    List<Integer> other = new ArrayList<>();
                    for (int colour : k) {
                        other.add(colour < 2 ? 1 - colour : colour);
                    }
                    exchanged.add(other);
                }
                if (c == 1 || exchanged.equals(kind)) {
                    count++;
                }
            }
            return count;
        }

        int orbits() {
            Set<Set<Integer>> orbits = new HashSet<>();
            for (int place = 0; place < 6; place++) {
                Set<Integer> orbit = new HashSet<>();
                for (List<Integer> g : group()) {
                    orbit.add(g.get(place));
                }
                orbits.add(orbit);
            }
            return orbits.size();
        }

        int pairKinds() {
            Set<Set<Set<Integer>>> kinds = new HashSet<>();
            for (int one = 0; one < 6; one++) {
                for (int two = 0; two < one; two++) {
                    Set<Set<Integer>> kind = new HashSet<>();
                    for (List<Integer> g : group()) {
                        kind.add(Set.of(g.get(one), g.get(two)));
                    }
                    kinds.add(kind);
                }
            }
            return kinds.size();
        }
    }

    /** The six digits, lowest first; null if the number has not six of them. */
    private static List<Integer> digits(int number, int base) {
        List<Integer> digits = new ArrayList<>();
        int rest = number;
        for (int i = 0; i < 6; i++) {
            digits.add(Math.floorMod(rest, base));
            rest = Math.floorDiv(rest, base);
        }
        boolean whole = base == 1 ? number == 0 : rest == 0;
        return whole ? digits : null;
    }

    private static int number(List<Integer> digits, int base) {
        int number = 0;
        for (int i = 5; i >= 0; i--) {
            number = base * number + digits.get(i);
        }
        return number;
    }

    // Wild rearrangements soon make the whole group; a few swaps and turns of neighbours keep it small.
    private static int someRearrangement(Random random) {
        List<Integer> places = new ArrayList<>(List.of(0, 1, 2, 3, 4, 5));
        switch (random.nextInt(6)) {
            case 0 -> Collections.shuffle(places, random);
            case 1 -> Collections.swap(places, random.nextInt(6), random.nextInt(6));
            case 2 -> Collections.rotate(places, random.nextInt(6));
            case 3 -> Collections.reverse(places);
            case 4 -> Collections.rotate(places.subList(0, 2 + random.nextInt(4)), 1);
            default -> {
                Collections.swap(places, 0, 1);
                Collections.swap(places, 2 + random.nextInt(2), 4 + random.nextInt(2));
            }
        }
        return number(places, 6);
    }

    private static int someNumber(Random random, int past) {
        return switch (random.nextInt(12)) {
            case 0 -> past;
            case 1 -> -1 - random.nextInt(5);
            case 2 -> random.nextInt();
            case 3 -> past - 1;
            default -> random.nextInt(past);
        };
    }

    private static void due(int run, String call, int got, int want) {
        if (got != want) {
            wrong++;
            System.out.println("run " + run + ": " + call + " answered " + got + ", due is " + want);
        }
    }

    private static void call(int run, Random random, ColourKinds x, Model model) {
        int colourings = (int) Math.pow(model.c, 6);
        switch (random.nextInt(24)) {
            case 0, 1 -> {
                int g = random.nextInt(4) == 0 ? someNumber(random, 46656) : someRearrangement(random);
                due(run, "add(" + g + ")", x.add(g), model.add(g));
            }
            case 2 -> due(run, "remove()", x.remove(), model.remove());
            case 3 -> {
                int n = random.nextInt(6) - 1;
                due(run, "colours(" + n + ")", x.colours(n), model.colours(n));
            }
            case 4 -> due(run, "order()", x.order(), model.group().size());
            case 5, 6 -> {
                int k = random.nextInt(9) - 1;
                due(run, "withCycles(" + k + ")", x.withCycles(k), model.withCycles(k));
            }
            case 7 -> due(run, "kinds()", x.kinds(), model.kinds());
            case 8, 9, 10 -> {
                int m = someNumber(random, 7);
                int n = random.nextBoolean() ? 6 - m : someNumber(random, 7);
                due(run, "kindsWith(" + m + ", " + n + ")", x.kindsWith(m, n), model.kindsWith(m, n));
            }
            case 11 -> due(run, "kindsWithAll()", x.kindsWithAll(), model.kindsWithAll());
            case 12, 13, 14 -> {
                int k = someNumber(random, colourings);
                due(run, "name(" + k + ")", x.name(k), model.name(k));
            }
            case 15, 16, 17 -> {
                int k = someNumber(random, colourings);
                due(run, "size(" + k + ")", x.size(k), model.size(k));
            }
            case 18, 19 -> {
                int k = someNumber(random, colourings);
                int other = random.nextBoolean() ? model.name(k) : someNumber(random, colourings);
                boolean got = x.alike(k, other);
                due(run, "alike(" + k + ", " + other + ")", got ? 1 : 0, model.alike(k, other) ? 1 : 0);
            }
            case 20 -> due(run, "still()", x.still(), model.still());
            case 21 -> due(run, "selfExchanged()", x.selfExchanged(), model.selfExchanged());
            case 22 -> due(run, "orbits()", x.orbits(), model.orbits());
            default -> due(run, "pairKinds()", x.pairKinds(), model.pairKinds());
        }
    }

    public static void main(String[] args) {
        Set<Integer> orders = new TreeSet<>();
        for (int run = 0; run < RUNS; run++) {
            // A fixed seed: the runs are many, but the same ones each time.
            Random random = new Random(run);
            ColourKinds x = new ColourKinds();
            Model model = new Model();
            for (int calls = 0; calls < CALLS_PROMISED; calls++) {
                call(run, random, x, model);
                orders.add(model.group().size());
            }
        }
        System.out.println("groups with these numbers of rearrangements were met: " + orders);
        System.out.println(wrong == 0 ? "all answers are as due" : wrong + " answers are not as due");
        if (wrong != 0) {
            System.exit(1);
        }
    }
}
