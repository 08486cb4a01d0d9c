import java.util.ArrayList;
import java.util.HashMap;
import java.util.LinkedHashMap;
import java.util.List;
import java.util.Map;
import java.util.Set;
import java.util.TreeSet;

/**
 * The sentences of the document that name a boundary case, in its order, each with a test of its own:
 * inputs just inside and just outside of each bound, and far outside of it. The refused calls are
 * followed by a look at all that later calls show, beside an object that was spared the refused call.
 */
public final class BoundsTest {
    private static final int BAD_ARG = -1;
    private static final int FULL = -2;
    private static final int NONE = -4;
    private static final int LEAST = Integer.MIN_VALUE;
    private static final int GREATEST = Integer.MAX_VALUE;

    private static final int CALLS_PROMISED = 512;
    // Leaves room for a look after them.
    private static final int REFUSED_IN_A_ROW = 90;
    private static final int MOST_TOLD = 20;
    private static final long THREW = Long.MIN_VALUE;

    private static final int IDENTITY = code(0, 1, 2, 3, 4, 5);
    private static final int MIRROR = code(5, 4, 3, 2, 1, 0);
    private static final int TURN_OF_SIX = code(1, 2, 3, 4, 5, 0);
    private static final int TURN_OF_FIRST_THREE = code(1, 2, 0, 3, 4, 5);
    private static final int TURN_OF_LAST_THREE = code(0, 1, 2, 4, 5, 3);
    private static final int TURN_OF_LAST_FIVE = code(0, 2, 3, 4, 5, 1);
    private static final int SWAP_01 = code(1, 0, 2, 3, 4, 5);
    private static final int SWAP_12 = code(0, 2, 1, 3, 4, 5);
    private static final int SWAP_23 = code(0, 1, 3, 2, 4, 5);
    private static final int SWAP_45 = code(0, 1, 2, 3, 5, 4);

    private static final int[][] GENERATORS = {
        {}, {IDENTITY}, {TURN_OF_SIX}, {SWAP_45, TURN_OF_FIRST_THREE}, {SWAP_01, TURN_OF_SIX},
        {IDENTITY, IDENTITY, IDENTITY}, {SWAP_01, SWAP_23, SWAP_45}, {TURN_OF_SIX, TURN_OF_SIX, MIRROR},
        {SWAP_01, TURN_OF_SIX, MIRROR},
    };

    private static String sentence = "";
    private static int wrong = 0;
    private static int told = 0;

    private record Call(String method, int a, int b) {
        static Call of(String method, int... arguments) {
            int a = arguments.length > 0 ? arguments[0] : 0;
            int b = arguments.length > 1 ? arguments[1] : 0;
            return new Call(method, a, b);
        }

        int on(ColourKinds x) {
            return switch (method) {
                case "add" -> x.add(a);
                case "remove" -> x.remove();
                case "colours" -> x.colours(a);
                case "order" -> x.order();
                case "withCycles" -> x.withCycles(a);
                case "kinds" -> x.kinds();
                case "kindsWith" -> x.kindsWith(a, b);
                case "kindsWithAll" -> x.kindsWithAll();
                case "name" -> x.name(a);
                case "size" -> x.size(a);
                case "alike" -> x.alike(a, b) ? 1 : 0;
                case "still" -> x.still();
                case "selfExchanged" -> x.selfExchanged();
                case "orbits" -> x.orbits();
                case "pairKinds" -> x.pairKinds();
                default -> throw new IllegalStateException("the test itself names no call: " + method);
            };
        }

        @Override
        public String toString() {
            return switch (method) {
                case "kindsWith", "alike" -> method + "(" + a + ", " + b + ")";
                case "add", "colours", "withCycles", "name", "size" -> method + "(" + a + ")";
                default -> method + "()";
            };
        }
    }

    /** An object of the class, with the calls that were made on it. */
    private static final class Run {
        private final ColourKinds x = new ColourKinds();
        private final List<Call> made = new ArrayList<>();

        long answer(Call call) {
            if (made.size() == CALLS_PROMISED) {
                throw new IllegalStateException("the test itself makes more calls than are promised");
            }
            made.add(call);
            try {
                return call.on(x);
            } catch (RuntimeException | StackOverflowError thrown) {
                tell(this, "threw " + thrown);
                return THREW;
            }
        }

        void due(long want, Call call) {
            long got = answer(call);
            if (got != want && got != THREW) {
                tell(this, "answered " + got + ", due is " + want);
            }
        }

        void due(long want, String method, int... arguments) {
            due(want, Call.of(method, arguments));
        }
    }

    private static void tell(Run run, String what) {
        wrong++;
        told++;
        if (told <= MOST_TOLD) {
            int size = run.made.size();
            String gap = size > 8 ? ".. " + (size - 8) + " calls, " : "";
            System.out.println(sentence + ": " + gap + run.made.subList(Math.max(0, size - 8), size) + " " + what);
        } else if (told == MOST_TOLD + 1) {
            System.out.println(sentence + ": and more");
        }
    }

    private static void section(String name, Runnable test) {
        sentence = name;
        told = 0;
        test.run();
    }

    private static int code(int... carried) {
        int code = 0;
        for (int place = 5; place >= 0; place--) {
            code = 6 * code + carried[place];
        }
        return code;
    }

    private static int sixth(int c) {
        return c * c * c * c * c * c;
    }

    private static Run with(int c, int... generators) {
        Run run = new Run();
        for (int i = 0; i < generators.length; i++) {
            run.due(i + 1, "add", generators[i]);
        }
        run.due(2, "colours", c);
        return run;
    }

    private static Run everything(int c) {
        return with(c, SWAP_01, TURN_OF_SIX);
    }

    /** Numbers just and far outside of low to high, and such as look like inner ones in fewer bits. */
    private static Set<Integer> outside(int low, int high) {
        Set<Integer> numbers = new TreeSet<>(edges());
        for (int inner : new int[] {low, low + 1, (low + high) / 2, high - 1, high}) {
            for (int bit = 8; bit < 32; bit += bit == 24 ? 7 : 8) {
                numbers.add(inner + (1 << bit));
                numbers.add(inner - (1 << bit));
            }
            numbers.add(-inner);
            numbers.add(~inner);
        }
        for (int step = 1; step <= 3; step++) {
            numbers.add(low - step);
            numbers.add(high + step);
        }
        numbers.removeIf(number -> number >= low && number <= high);
        return numbers;
    }

    private static Set<Integer> edges() {
        Set<Integer> numbers = new TreeSet<>();
        int[] middles = {0, 64, 729, IDENTITY, 46656, -64, -729, -46656, 1 << 8, 1 << 16, 1 << 30, -(1 << 30)};
        for (int middle : middles) {
            numbers.add(middle - 1);
            numbers.add(middle);
            numbers.add(middle + 1);
        }
        for (int step = 0; step <= 7; step++) {
            numbers.add(step);
            numbers.add(LEAST + step);
            numbers.add(GREATEST - step);
        }
        return numbers;
    }

    private static boolean isRearrangement(int g) {
        if (g < 0 || g > 46655) {
            return false;
        }
        Set<Character> reached = new TreeSet<>();
        String digits = Integer.toString(46656 + g, 6).substring(1);
        for (char digit : digits.toCharArray()) {
            reached.add(digit);
        }
        return reached.size() == 6;
    }

    private static Set<Integer> rearrangements() {
        Set<Integer> codes = new TreeSet<>();
        for (int g = 0; g < 46656; g++) {
            if (isRearrangement(g)) {
                codes.add(g);
            }
        }
        return codes;
    }

    private static Set<Integer> noRearrangements() {
        Set<Integer> numbers = outside(0, 46655);
        for (int g : new int[] {IDENTITY, MIRROR, TURN_OF_SIX, SWAP_01}) {
            for (int step : new int[] {1, 2, 6, 36, 216, 1296, 7776, 46656, 2 * 46656, 46000 * 46656}) {
                numbers.add(g + step);
                numbers.add(g - step);
            }
        }
        // Two places carried to the same one.
        for (int one = 0; one < 6; one++) {
            for (int two = 0; two < 6; two++) {
                int[] carried = {0, 1, 2, 3, 4, 5};
                carried[one] = two;
                numbers.add(code(carried));
            }
        }
        // All places carried to the same one.
        for (int place = 0; place < 6; place++) {
            numbers.add(code(place, place, place, place, place, place));
        }
        numbers.removeIf(BoundsTest::isRearrangement);
        return numbers;
    }

    // ---- "An object is used for at most 512 calls after it has been made"

    private static void the512thCallStillHolds() {
        List<Call> changeNothing = List.of(
            Call.of("add", 0), Call.of("add", 46656), Call.of("add", MIRROR), Call.of("colours", 0),
            Call.of("colours", 4), Call.of("colours", 3), Call.of("order"), Call.of("withCycles", 3),
            Call.of("withCycles", 7), Call.of("kinds"), Call.of("kindsWith", 2, 2), Call.of("kindsWith", 7, -1),
            Call.of("kindsWithAll"), Call.of("name", 500), Call.of("name", 729), Call.of("size", 500),
            Call.of("size", -1), Call.of("alike", 1, 243), Call.of("alike", 729, 729), Call.of("still"),
            Call.of("selfExchanged"), Call.of("orbits"), Call.of("pairKinds"));
        for (Call earlier : changeNothing) {
            Run run = with(3, TURN_OF_SIX, MIRROR, IDENTITY);
            long first = run.answer(earlier);
            while (run.made.size() < CALLS_PROMISED - 1) {
                run.due(first, earlier);
            }
            run.due(92, "kinds");
        }
        onlyOneCallUpToTheLast();
        removeUpToTheLastCall();
        addAndRemoveUpToTheLastCall();
        coloursUpToTheLastCall();
    }

    private static void onlyOneCallUpToTheLast() {
        for (Call call : briefLook(2)) {
            long first = new Run().answer(call);
            Run run = new Run();
            while (run.made.size() < CALLS_PROMISED) {
                run.due(first, call);
            }
        }
    }

    private static void removeUpToTheLastCall() {
        Run run = new Run();
        while (run.made.size() < CALLS_PROMISED - 1) {
            run.due(NONE, "remove");
        }
        run.due(1, "add", TURN_OF_SIX);
    }

    private static void addAndRemoveUpToTheLastCall() {
        Run run = with(2, SWAP_01);
        while (run.made.size() < CALLS_PROMISED - 4) {
            run.due(2, "add", TURN_OF_SIX);
            run.due(TURN_OF_SIX, "remove");
        }
        run.due(2, "add", TURN_OF_SIX);
        run.due(3, "add", IDENTITY);
        run.due(FULL, "add", SWAP_01);
        run.due(720, "order");
    }

    private static void coloursUpToTheLastCall() {
        Run run = everything(2);
        int before = 2;
        while (run.made.size() < CALLS_PROMISED - 1) {
            int n = before % 3 + 1;
            run.due(before, "colours", n);
            before = n;
        }
        int[] kinds = {1, 7, 28};
        run.due(kinds[before - 1], "kinds");
    }

    // ---- "PLACES are 0 to 5. A REARRANGEMENT carries each place i to a place gi, different ones to different ones"

    private static void theLeastAndTheGreatestCode() {
        // With g5 lowest and g0 highest the code is least, the other way round it is greatest.
        Run run = new Run();
        run.due(BAD_ARG, "add", 1864);
        run.due(1, "add", 1865);
        run.due(2, "order");
        run.due(3, "orbits");
        run.due(BAD_ARG, "add", 1866);
        run.due(BAD_ARG, "add", 44789);
        run.due(2, "add", 44790);
        run.due(2, "order");
        run.due(BAD_ARG, "add", 44791);
        run.due(BAD_ARG, "add", 46655);
        run.due(BAD_ARG, "add", 46656);
        run.due(44790, "remove");
        run.due(1865, "remove");
        run.due(NONE, "remove");
    }

    private static void eachPlaceOfACodeCounts() {
        // The swap of two places is a kind of two for every colouring that has them unlike.
        for (int one = 0; one < 6; one++) {
            for (int two = one + 1; two < 6; two++) {
                int[] carried = {0, 1, 2, 3, 4, 5};
                carried[one] = two;
                carried[two] = one;
                Run run = with(2, code(carried));
                run.due(5, "orbits");
                run.due(1 << one, "name", 1 << two);
                run.due(1 << one, "name", 1 << one);
                run.due(2, "size", 1 << two);
                run.due(1, "size", (1 << one) + (1 << two));
                for (int other = 0; other < 6; other++) {
                    boolean moved = other == one || other == two;
                    run.due(moved ? 2 : 1, "size", 1 << other);
                    run.due(moved ? 1 : 0, "alike", 1 << other, 1 << two);
                }
            }
        }
    }

    // ---- "There are at most 3 GENERATORS"

    private static void threeGeneratorsAllCount() {
        int[] swaps = {SWAP_01, SWAP_23, SWAP_45};
        int[][] orders = {{0, 1, 2}, {0, 2, 1}, {1, 0, 2}, {1, 2, 0}, {2, 0, 1}, {2, 1, 0}};
        for (int[] o : orders) {
            Run run = with(2, swaps[o[0]], swaps[o[1]], swaps[o[2]]);
            run.due(8, "order");
            run.due(27, "kinds");
            run.due(FULL, "add", SWAP_12);
            run.due(8, "order");
            run.due(swaps[o[2]], "remove");
            run.due(4, "order");
            run.due(swaps[o[1]], "remove");
            run.due(2, "order");
            run.due(5, "orbits");
            run.due(2, "size", 1 << 2 * o[0]);
            run.due(1, "size", 1 << 2 * o[1]);
        }
    }

    // ---- "The GROUP has the identity and all rearrangements that come of doing generators one after the other,
    // in any order and number"

    private static void theGroupOfNoneOrTheIdentity() {
        int[][] trivial = {{}, {IDENTITY}, {IDENTITY, IDENTITY}, {IDENTITY, IDENTITY, IDENTITY}};
        for (int[] generators : trivial) {
            for (int c = 1; c <= 3; c++) {
                Run run = with(c, generators);
                run.due(1, "order");
                run.due(1, "withCycles", 6);
                run.due(0, "withCycles", 5);
                run.due(sixth(c), "kinds");
                run.due(sixth(c), "still");
                run.due(6, "orbits");
                run.due(15, "pairKinds");
            }
        }
    }

    private static void theGroupOfOneGenerator() {
        for (int g : rearrangements()) {
            List<Integer> lengths = cycleLengths(g);
            Run run = with(3, g);
            run.due(lcm(lengths), "order");
            run.due(lengths.size(), "orbits");
            run.due((long) Math.pow(3, lengths.size()), "still");
            run.due(2, "add", g);
            run.due(lcm(lengths), "order");
            run.due(lengths.size(), "orbits");
        }
    }

    private static List<Integer> cycleLengths(int g) {
        String digits = new StringBuilder(Integer.toString(46656 + g, 6).substring(1)).reverse().toString();
        List<Integer> lengths = new ArrayList<>();
        Set<Integer> seen = new TreeSet<>();
        for (int place = 0; place < 6; place++) {
            int length = 0;
            for (int at = place; seen.add(at); at = digits.charAt(at) - '0') {
                length++;
            }
            if (length > 0) {
                lengths.add(length);
            }
        }
        return lengths;
    }

    private static int lcm(List<Integer> lengths) {
        int multiple = 1;
        while (true) {
            int candidate = multiple;
            if (lengths.stream().allMatch(length -> candidate % length == 0)) {
                return multiple;
            }
            multiple++;
        }
    }

    private static void theGroupOfAllRearrangements() {
        int[][] whole = {
            {SWAP_01, TURN_OF_SIX}, {TURN_OF_SIX, SWAP_01}, {SWAP_01, TURN_OF_LAST_FIVE, MIRROR},
            {TURN_OF_LAST_FIVE, SWAP_01}, {IDENTITY, SWAP_45, TURN_OF_SIX}, {SWAP_12, TURN_OF_SIX, TURN_OF_SIX},
        };
        for (int[] generators : whole) {
            Run run = with(3, generators);
            run.due(720, "order");
            run.due(28, "kinds");
            run.due(1, "orbits");
            run.due(1, "pairKinds");
        }
        Run half = with(2, TURN_OF_FIRST_THREE, TURN_OF_LAST_FIVE);
        half.due(360, "order");
        half.due(3, "add", SWAP_01);
        half.due(720, "order");
        half.due(SWAP_01, "remove");
        half.due(360, "order");
    }

    // ---- "A COLOURING gives each place a colour; its NUMBER is the sum over the places i of its colour times c
    // to the power i" and "its NAME is the least number of a colouring in it"

    private static void theLeastAndTheGreatestNumber() {
        for (int c = 1; c <= 3; c++) {
            for (int[] generators : GENERATORS) {
                Run run = with(c, generators);
                run.due(0, "name", 0);
                run.due(1, "size", 0);
                run.due(sixth(c) - 1, "name", sixth(c) - 1);
                run.due(1, "size", sixth(c) - 1);
                run.due(c == 1 ? 1 : 0, "alike", 0, sixth(c) - 1);
            }
        }
        // One place apart from the rest, at each place and with each colour.
        for (int c = 2; c <= 3; c++) {
            Run run = everything(c);
            int power = 1;
            for (int place = 0; place < 6; place++) {
                for (int colour = 1; colour < c; colour++) {
                    run.due(colour, "name", colour * power);
                    run.due(6, "size", colour * power);
                }
                power *= c;
            }
        }
    }

    private static void namesAndSizesFitTogether() {
        for (int[] generators : GENERATORS) {
            for (int c = 1; c <= 3; c++) {
                int[] name = new int[sixth(c)];
                Map<Integer, Integer> size = new HashMap<>();
                for (int k = 0; k < sixth(c); k++) {
                    Run run = k % 400 == 0 ? newest(c, generators) : newest;
                    name[k] = (int) run.answer(Call.of("name", k));
                    size.merge(name[k], 1, Integer::sum);
                }
                for (int k = 0; k < sixth(c); k++) {
                    Run run = k % 100 == 0 ? newest(c, generators) : newest;
                    run.due(Math.min(k, name[k]), "name", k);
                    run.due(name[k], "name", name[k]);
                    run.due(size.get(name[k]), "size", k);
                    run.due(1, "alike", k, name[k]);
                }
                Run run = newest(c, generators);
                run.due(size.size(), "kinds");
                run.due(size.values().stream().filter(count -> count == 1).count(), "still");
            }
        }
    }

    private static Run newest = null;

    private static Run newest(int c, int... generators) {
        newest = with(c, generators);
        return newest;
    }

    // ---- "No call ever throws."

    private static void noCallEverThrows() {
        Set<Integer> numbers = edges();
        for (int[] generators : GENERATORS) {
            for (int c = 1; c <= 3; c++) {
                for (int a : numbers) {
                    Run run = with(c, generators);
                    for (String method : new String[] {"withCycles", "name", "size", "add", "colours"}) {
                        run.answer(Call.of(method, a));
                    }
                    run = with(c, generators);
                    for (int b : numbers) {
                        run.answer(Call.of("kindsWith", a, b));
                        run.answer(Call.of("alike", a, b));
                    }
                    for (Call call : questions()) {
                        run.answer(call);
                    }
                }
            }
        }
    }

    private static List<Call> questions() {
        List<Call> calls = new ArrayList<>();
        String[] plain = {
            "order", "kinds", "kindsWithAll", "still", "selfExchanged", "orbits", "pairKinds",
        };
        for (String method : plain) {
            calls.add(Call.of(method));
        }
        return calls;
    }

    // ---- "A refused call answers the code named and changes nothing."

    private static void aRefusedCallChangesNothing() {
        for (int[] generators : GENERATORS) {
            for (int c = 1; c <= 3; c++) {
                List<List<Call>> looks = allLooks(c, generators.length);
                List<List<Long>> undisturbed = new ArrayList<>();
                for (List<Call> look : looks) {
                    undisturbed.add(looked(with(c, generators), look));
                }
                for (Map.Entry<Call, Integer> refused : refusedCalls(c, generators, false).entrySet()) {
                    compare(after(List.of(refused), c, generators), looks.get(0), undisturbed.get(0));
                }
                for (Call question : briefLook(c)) {
                    Run run = with(c, generators);
                    run.answer(question);
                    compare(run, looks.get(0), undisturbed.get(0));
                }
                List<Map.Entry<Call, Integer>> all = new ArrayList<>(refusedCalls(c, generators, true).entrySet());
                for (int from = 0; from < all.size(); from += REFUSED_IN_A_ROW) {
                    int to = Math.min(all.size(), from + REFUSED_IN_A_ROW);
                    for (int i = 0; i < looks.size(); i++) {
                        compare(after(all.subList(from, to), c, generators), looks.get(i), undisturbed.get(i));
                    }
                }
            }
        }
    }

    private static void aRefusedFirstCallChangesNothing() {
        List<Call> look = lookAfterChanges(2, 0);
        List<Long> undisturbed = looked(new Run(), look);
        for (Map.Entry<Call, Integer> refused : refusedCalls(2, new int[0], true).entrySet()) {
            Run run = new Run();
            run.due(refused.getValue(), refused.getKey());
            compare(run, look, undisturbed);
        }
    }

    private static Run after(List<Map.Entry<Call, Integer>> refusedCalls, int c, int[] generators) {
        Run run = with(c, generators);
        for (Map.Entry<Call, Integer> refused : refusedCalls) {
            run.due(refused.getValue(), refused.getKey());
        }
        return run;
    }

    /** Calls that are refused, or that ask for what can't be, with the answer that is due. */
    private static Map<Call, Integer> refusedCalls(int c, int[] generators, boolean all) {
        Map<Call, Integer> refused = new LinkedHashMap<>();
        int[] few = {LEAST, -TURN_OF_SIX, -1, 0, 44791, 46655, 46656, TURN_OF_SIX + 46656, GREATEST};
        for (int g : all ? noRearrangements() : setOf(few)) {
            refused.put(Call.of("add", g), BAD_ARG);
        }
        if (generators.length == 3) {
            for (int g : new int[] {IDENTITY, MIRROR, TURN_OF_SIX, TURN_OF_LAST_FIVE, SWAP_12}) {
                refused.put(Call.of("add", g), FULL);
            }
        }
        if (generators.length == 0) {
            refused.put(Call.of("remove"), NONE);
        }
        for (int n : beyond(1, 3, all)) {
            refused.put(Call.of("colours", n), BAD_ARG);
        }
        for (int colouring : beyond(0, sixth(c) - 1, all)) {
            refused.put(Call.of("name", colouring), NONE);
            refused.put(Call.of("size", colouring), NONE);
            refused.put(Call.of("alike", colouring, 0), 0);
            refused.put(Call.of("alike", 0, colouring), 0);
        }
        for (int k : beyond(1, 6, all)) {
            refused.put(Call.of("withCycles", k), 0);
        }
        for (int m : beyond(0, 6, all)) {
            refused.put(Call.of("kindsWith", m, 6 - m), 0);
            refused.put(Call.of("kindsWith", 0, m), 0);
        }
        return refused;
    }

    private static Set<Integer> beyond(int low, int high, boolean all) {
        return all ? outside(low, high) : setOf(LEAST, low - 1, high + 1, GREATEST);
    }

    private static Set<Integer> setOf(int... numbers) {
        Set<Integer> set = new TreeSet<>();
        for (int number : numbers) {
            set.add(number);
        }
        return set;
    }

    private static List<Long> looked(Run run, List<Call> look) {
        List<Long> answers = new ArrayList<>();
        for (Call call : look) {
            answers.add(run.answer(call));
        }
        return answers;
    }

    private static void compare(Run run, List<Call> look, List<Long> undisturbed) {
        for (int i = 0; i < look.size(); i++) {
            run.due(undisturbed.get(i), look.get(i));
        }
    }

    /**
     * Lists of calls that together show all there is; each is for a new object, none is too long for one.
     * None of them is refused: if it were, it might spoil the object that is spared the refused calls too.
     */
    private static List<List<Call>> allLooks(int c, int generatorCount) {
        List<List<Call>> looks = new ArrayList<>();
        looks.add(lookAfterChanges(c, generatorCount));
        List<Call> counts = new ArrayList<>(briefLook(c));
        for (int m = 0; m <= 6; m++) {
            for (int n = 0; n <= 6; n++) {
                if (ways(c, m, n) > 0) {
                    counts.add(Call.of("kindsWith", m, n));
                }
            }
        }
        looks.add(counts);
        for (int from = 0; from < sixth(c); from += 100) {
            List<Call> colourings = new ArrayList<>();
            for (int k = from; k < from + 100 && k < sixth(c); k++) {
                colourings.add(Call.of("name", k));
                colourings.add(Call.of("size", k));
                colourings.add(Call.of("alike", k, c * k % sixth(c)));
                colourings.add(Call.of("alike", (k + 1) % sixth(c), k));
            }
            looks.add(colourings);
        }
        return looks;
    }

    /** Looks as things stand, then with each number of colours, each number of generators less and more. */
    private static List<Call> lookAfterChanges(int c, int generatorCount) {
        List<Call> look = new ArrayList<>(briefLook(c));
        for (int n = 1; n <= 3; n++) {
            look.add(Call.of("colours", n));
            look.addAll(briefLook(n));
        }
        for (int i = 0; i < generatorCount; i++) {
            look.add(Call.of("remove"));
            look.addAll(briefLook(3));
        }
        for (int g : new int[] {SWAP_12, SWAP_45, IDENTITY}) {
            look.add(Call.of("add", g));
            look.addAll(briefLook(3));
        }
        // These are refused, so they come last.
        look.add(Call.of("add", MIRROR));
        look.add(Call.of("colours", 0));
        return look;
    }

    private static List<Call> briefLook(int c) {
        List<Call> look = new ArrayList<>(questions());
        for (int k = 1; k <= 6; k++) {
            look.add(Call.of("withCycles", k));
        }
        look.add(Call.of("kindsWith", 6, 0));
        look.add(c == 1 ? Call.of("kindsWith", 6, 0) : Call.of("kindsWith", 3, 3));
        for (int colouring : new int[] {0, 1, 32, 50, 63, 500, 728}) {
            look.add(Call.of("name", colouring % sixth(c)));
            look.add(Call.of("size", colouring % sixth(c)));
        }
        look.add(Call.of("alike", 1 % sixth(c), 32 % sixth(c)));
        look.add(Call.of("alike", 0, sixth(c) - 1));
        return look;
    }

    // ---- The constants, with the values by which the answers are told apart

    private static void theConstants() {
        constant("BAD_ARG", ColourKinds.BAD_ARG, BAD_ARG);
        constant("FULL", ColourKinds.FULL, FULL);
        constant("NONE", ColourKinds.NONE, NONE);
    }

    private static void constant(String name, int got, int want) {
        if (got != want) {
            wrong++;
            System.out.println(sentence + ": " + name + " is " + got + ", due is " + want);
        }
    }

    // ---- Promise 1: "No generator; c is 2."

    private static void aNewObject() {
        int[] plain = {1, 64, 62, 64, 0, 6, 15};
        Run run = new Run();
        for (int i = 0; i < plain.length; i++) {
            run.due(plain[i], questions().get(i));
            new Run().due(plain[i], questions().get(i));
        }
        int[] chosen = {1, 6, 15, 20, 15, 6, 1};
        for (int k = 0; k <= 7; k++) {
            run.due(k == 6 ? 1 : 0, "withCycles", k);
            for (int m = 0; m <= 7; m++) {
                run.due(k + m == 6 ? chosen[m] : 0, "kindsWith", m, k);
            }
        }
        run = new Run();
        for (int colouring = -1; colouring <= 64; colouring++) {
            boolean is = colouring >= 0 && colouring <= 63;
            run.due(is ? colouring : NONE, "name", colouring);
            run.due(is ? 1 : NONE, "size", colouring);
            run.due(is ? 1 : 0, "alike", colouring, colouring);
            run.due(0, "alike", colouring, colouring + 1);
        }
        new Run().due(NONE, "remove");
        new Run().due(1, "add", IDENTITY);
        for (int n = 1; n <= 3; n++) {
            new Run().due(2, "colours", n);
        }
    }

    // ---- Promise 2: "Tested in this order: g no code of a rearrangement answers BAD_ARG; FULL. Otherwise the
    // number of generators."

    private static void noCodeIsRefusedAtEveryNumberOfGenerators() {
        for (int[] generators : GENERATORS) {
            Run run = with(2, generators);
            for (int g : noRearrangements()) {
                run.due(BAD_ARG, "add", g);
            }
            int count = generators.length;
            run.due(count == 3 ? FULL : count + 1, "add", SWAP_12);
        }
    }

    private static void everyNumberBelow46656() {
        // In one run without a generator, in another when it is full.
        Run empty = null;
        Run full = null;
        for (int g = 0; g < 46656; g++) {
            if (g % 250 == 0) {
                empty = new Run();
                full = with(1, IDENTITY, IDENTITY, IDENTITY);
            }
            boolean is = isRearrangement(g);
            empty.due(is ? 1 : BAD_ARG, "add", g);
            full.due(is ? FULL : BAD_ARG, "add", g);
            if (is) {
                empty.due(g, "remove");
            }
        }
    }

    private static void fullIsAtThree() {
        int[] codes = {IDENTITY, MIRROR, TURN_OF_SIX, SWAP_45};
        for (int first : codes) {
            for (int second : codes) {
                for (int third : codes) {
                    for (int fourth : codes) {
                        Run run = with(2, first, second, third);
                        run.due(FULL, "add", fourth);
                        run.due(BAD_ARG, "add", fourth + 1);
                        run.due(FULL, "add", first);
                        run.due(third, "remove");
                        run.due(3, "add", fourth);
                        run.due(FULL, "add", third);
                        run.due(fourth, "remove");
                        run.due(second, "remove");
                        run.due(first, "remove");
                        run.due(NONE, "remove");
                    }
                }
            }
        }
    }

    // ---- Promise 3: "NONE if there is none. Otherwise its code."

    private static void removeFromNone() {
        Run run = new Run();
        run.due(NONE, "remove");
        run.due(BAD_ARG, "add", 0);
        run.due(NONE, "remove");
        for (int round = 0; round < 8; round++) {
            for (int count = 1; count <= 3; count++) {
                for (int i = 1; i <= count; i++) {
                    run.due(i, "add", i == 1 ? MIRROR : i == 2 ? IDENTITY : TURN_OF_SIX);
                }
                for (int i = count; i >= 1; i--) {
                    run.due(i == 1 ? MIRROR : i == 2 ? IDENTITY : TURN_OF_SIX, "remove");
                }
                run.due(NONE, "remove");
                run.due(NONE, "remove");
                run.due(1, "order");
            }
        }
    }

    private static void removeAnswersEveryCode() {
        Run run = null;
        int i = 0;
        for (int g : rearrangements()) {
            if (i % 40 == 0) {
                run = with(1, MIRROR);
            }
            i++;
            run.due(2, "add", g);
            run.due(3, "add", IDENTITY);
            run.due(IDENTITY, "remove");
            run.due(g, "remove");
            run.due(2, "order");
        }
    }

    private static void removeOneOfTwoThatAreTheSame() {
        Run run = with(2, TURN_OF_SIX, SWAP_01, TURN_OF_SIX);
        run.due(TURN_OF_SIX, "remove");
        run.due(720, "order");
        run.due(SWAP_01, "remove");
        run.due(6, "order");
        run.due(14, "kinds");
        run.due(TURN_OF_SIX, "remove");
        run.due(1, "order");
        run.due(64, "kinds");
    }

    // ---- Promise 4: "c becomes n. BAD_ARG if n is not 1 to 3. Otherwise what it was."

    private static void coloursFromEachToEach() {
        for (int from = 1; from <= 3; from++) {
            for (int to = 1; to <= 3; to++) {
                Run run = with(from, TURN_OF_SIX);
                run.due(from, "colours", to);
                run.due(6, "order");
                int[] necklaces = {1, 14, 130};
                run.due(necklaces[to - 1], "kinds");
                run.due(to, "colours", from);
                run.due(TURN_OF_SIX, "remove");
                run.due(sixth(from), "kinds");
                run.due(from, "colours", from);
            }
        }
    }

    private static void coloursStayWhenGeneratorsChange() {
        for (int c = 1; c <= 3; c++) {
            Run run = with(c);
            for (int count = 1; count <= 3; count++) {
                run.due(count, "add", TURN_OF_SIX);
                run.due(c, "still");
                run.due(c, "colours", c);
            }
            for (int count = 2; count >= 0; count--) {
                run.due(TURN_OF_SIX, "remove");
                run.due(count == 0 ? sixth(c) : c, "still");
                run.due(c, "colours", c);
            }
        }
    }

    private static void coloursOutOfRange() {
        for (int c = 1; c <= 3; c++) {
            Run run = with(c, TURN_OF_SIX);
            int[] necklaces = {1, 14, 130};
            for (int n : outside(1, 3)) {
                run.due(BAD_ARG, "colours", n);
                run.due(necklaces[c - 1], "kinds");
                run.due(c, "colours", c);
            }
        }
    }

    // ---- Promise 6: "0 if k is not 1 to 6"

    private static void cyclesOutOfRange() {
        for (int[] generators : GENERATORS) {
            Run run = with(2, generators);
            for (int k : outside(1, 6)) {
                run.due(0, "withCycles", k);
            }
            long sum = 0;
            for (int k = 1; k <= 6; k++) {
                sum += run.answer(Call.of("withCycles", k));
            }
            run.due(sum, "order");
            run.due(1, "withCycles", 6);
        }
    }

    private static void fewestAndMostCycles() {
        Run turn = with(1, TURN_OF_SIX);
        turn.due(2, "withCycles", 1);
        turn.due(1, "withCycles", 6);
        Run swap = with(3, SWAP_45);
        swap.due(0, "withCycles", 1);
        swap.due(1, "withCycles", 5);
        swap.due(1, "withCycles", 6);
        Run all = everything(2);
        int[] stirling = {0, 120, 274, 225, 85, 15, 1, 0};
        for (int k = 0; k <= 7; k++) {
            all.due(stirling[k], "withCycles", k);
        }
    }

    // ---- Promise 7: the least and the greatest number of kinds

    private static void fewestAndMostKinds() {
        int[] fewest = {1, 7, 28};
        for (int c = 1; c <= 3; c++) {
            with(c).due(sixth(c), "kinds");
            everything(c).due(fewest[c - 1], "kinds");
        }
    }

    // ---- Promise 8: "0 if there can be none"

    private static void placesThatCanNotBe() {
        for (int c = 1; c <= 3; c++) {
            for (int m = -4; m <= 12; m++) {
                Run none = with(c);
                Run all = everything(c);
                for (int n = -4; n <= 12; n++) {
                    int ways = ways(c, m, n);
                    none.due(ways, "kindsWith", m, n);
                    all.due(ways > 0 ? 1 : 0, "kindsWith", m, n);
                }
            }
        }
    }

    /** The number of colourings with colour 0 at m places and colour 1 at n. */
    private static int ways(int c, int m, int n) {
        int rest = 6 - m - n;
        if (m < 0 || n < 0 || rest < 0 || c < 3 && rest > 0 || c < 2 && n > 0) {
            return 0;
        }
        int[] factorial = {1, 1, 2, 6, 24, 120, 720};
        return 720 / factorial[m] / factorial[n] / factorial[rest];
    }

    private static void placesFarOut() {
        for (int c = 1; c <= 3; c++) {
            for (int[] generators : GENERATORS) {
                for (int m : outside(0, 6)) {
                    Run run = with(c, generators);
                    // From -6 to 6 the sum is one that might be, some by going around the end.
                    for (int sum = -6; sum <= 6; sum++) {
                        run.due(0, "kindsWith", m, sum - m);
                        run.due(0, "kindsWith", sum - m, m);
                    }
                    for (int n : new int[] {0, 1, 3, 6, LEAST, GREATEST, m, -m}) {
                        run.due(0, "kindsWith", m, n);
                        run.due(0, "kindsWith", n, m);
                    }
                }
            }
        }
    }

    private static void everyKindHasItsPlaces() {
        for (int c = 1; c <= 3; c++) {
            for (int[] generators : GENERATORS) {
                Run run = with(c, generators);
                long sum = 0;
                for (int m = 0; m <= 6; m++) {
                    for (int n = 0; m + n <= 6; n++) {
                        sum += run.answer(Call.of("kindsWith", m, n));
                    }
                }
                run.due(sum, "kinds");
                run.due(c == 1 ? 0 : 1, "kindsWith", 0, 6);
                run.due(1, "kindsWith", 6, 0);
                run.due(c == 3 ? 1 : 0, "kindsWith", 0, 0);
            }
        }
    }

    // ---- Promise 9: "every colour stands at some place"

    private static void everyColourAtSomePlace() {
        int[] none = {1, 62, 540};
        int[] all = {1, 5, 10};
        int[] swaps = {1, 25, 138};
        for (int c = 1; c <= 3; c++) {
            with(c).due(none[c - 1], "kindsWithAll");
            everything(c).due(all[c - 1], "kindsWithAll");
            with(c, SWAP_01, SWAP_23, SWAP_45).due(swaps[c - 1], "kindsWithAll");
        }
        Run run = everything(3);
        run.due(10, "kindsWithAll");
        run.due(3, "colours", 1);
        run.due(1, "kindsWithAll");
        run.due(1, "colours", 2);
        run.due(5, "kindsWithAll");
    }

    // ---- Promises 10 and 11: "NONE if there is no such colouring"

    private static void noSuchColouring(String method) {
        for (int c = 1; c <= 3; c++) {
            for (int[] generators : GENERATORS) {
                Run run = with(c, generators);
                for (int colouring : outside(0, sixth(c) - 1)) {
                    run.due(NONE, method, colouring);
                }
                run.due(method.equals("name") ? 0 : 1, method, 0);
                run.due(method.equals("name") ? sixth(c) - 1 : 1, method, sixth(c) - 1);
            }
        }
    }

    private static void numbersOfMoreColoursAreNoneWithFewer(String method) {
        int[] steps = {3, 2, 1, 2, 3, 1, 3};
        for (int[] generators : GENERATORS) {
            Run run = with(3, generators);
            int before = 3;
            for (int c : steps) {
                run.due(before, "colours", c);
                before = c;
                for (int colouring : new int[] {0, 1, 2, 62, 63, 64, 65, 700, 727, 728, 729, 730}) {
                    boolean none = colouring >= sixth(c);
                    long got = run.answer(Call.of(method, colouring));
                    if ((got == NONE) != none) {
                        tell(run, "answered " + got + " with " + c + " colours");
                    }
                }
            }
        }
    }

    // ---- Promise 12: "false if one of them is none"

    private static void noneIsAlikeToNothing() {
        for (int c = 1; c <= 3; c++) {
            int last = sixth(c) - 1;
            for (int[] generators : GENERATORS) {
                Run run = with(c, generators);
                run.due(1, "alike", 0, 0);
                run.due(1, "alike", last, last);
                for (int none : outside(0, last)) {
                    run.due(0, "alike", none, none);
                    run.due(0, "alike", none, 0);
                    run.due(0, "alike", last, none);
                    run.due(0, "alike", none, sixth(c));
                    run.due(0, "alike", -1, none);
                }
            }
        }
    }

    private static void whatWasAlikeIsNoneWithFewerColours() {
        Run run = everything(3);
        run.due(1, "alike", 243, 81);
        run.due(3, "colours", 2);
        run.due(0, "alike", 243, 81);
        run.due(0, "alike", 243, 243);
        run.due(1, "alike", 1, 32);
        run.due(2, "colours", 1);
        run.due(0, "alike", 1, 32);
        run.due(0, "alike", 1, 1);
        run.due(0, "alike", 0, 1);
        run.due(1, "alike", 0, 0);
    }

    private static void alikeForEachPair() {
        for (int a = -1; a <= 64; a++) {
            Run none = with(2);
            Run all = everything(2);
            for (int b = -1; b <= 64; b++) {
                boolean both = a >= 0 && a <= 63 && b >= 0 && b <= 63;
                none.due(both && a == b ? 1 : 0, "alike", a, b);
                all.due(both && Integer.bitCount(a) == Integer.bitCount(b) ? 1 : 0, "alike", a, b);
            }
        }
    }

    // ---- Promise 13: "kinds that have only one colouring"

    private static void fewestAndMostStill() {
        for (int c = 1; c <= 3; c++) {
            with(c).due(sixth(c), "still");
            with(c, IDENTITY).due(sixth(c), "still");
            with(c, SWAP_01).due(sixth(c) / c, "still");
            everything(c).due(c, "still");
            with(c, TURN_OF_SIX).due(c, "still");
        }
    }

    // ---- Promise 14: "all kinds if c is 1"

    private static void selfExchangedWithOneColour() {
        for (int[] generators : GENERATORS) {
            Run run = with(1, generators);
            run.due(1, "selfExchanged");
            run.due(1, "kinds");
            run.due(1, "colours", 3);
            run.due(3, "colours", 1);
            run.due(1, "selfExchanged");
        }
    }

    private static void selfExchangedWithMore() {
        // Without a generator each colouring is carried into another, unless it has neither colour 0 nor 1.
        with(2).due(0, "selfExchanged");
        with(2, IDENTITY, IDENTITY, IDENTITY).due(0, "selfExchanged");
        with(3).due(1, "selfExchanged");
        // All are alike with the same numbers of each colour: as many places of colour 0 as of 1.
        everything(2).due(1, "selfExchanged");
        everything(3).due(4, "selfExchanged");
        // A swap alone carries only the places 0 and 1; the others must have colour 2.
        with(2, SWAP_01).due(0, "selfExchanged");
        with(3, SWAP_01).due(2, "selfExchanged");
        // Each of three pairs has one of each colour, or, with three colours, colour 2 twice.
        with(2, SWAP_01, SWAP_23, SWAP_45).due(1, "selfExchanged");
        with(3, SWAP_01, SWAP_23, SWAP_45).due(8, "selfExchanged");
    }

    // ---- Promise 15: "greatest sets of places of which the group carries each to each"

    private static void fewestAndMostOrbits() {
        with(2).due(6, "orbits");
        with(2, SWAP_01).due(5, "orbits");
        with(2, SWAP_45).due(5, "orbits");
        with(2, SWAP_01, SWAP_12).due(4, "orbits");
        with(2, SWAP_01, SWAP_23).due(4, "orbits");
        with(2, SWAP_01, SWAP_12, SWAP_23).due(3, "orbits");
        with(2, SWAP_01, SWAP_23, SWAP_45).due(3, "orbits");
        with(2, TURN_OF_FIRST_THREE, TURN_OF_LAST_THREE).due(2, "orbits");
        with(2, TURN_OF_FIRST_THREE, TURN_OF_LAST_THREE, SWAP_23).due(1, "orbits");
        with(2, TURN_OF_LAST_FIVE).due(2, "orbits");
        with(2, TURN_OF_LAST_FIVE, SWAP_01).due(1, "orbits");
        with(2, TURN_OF_SIX).due(1, "orbits");
        for (int c = 1; c <= 3; c++) {
            with(c).due(6, "orbits");
            everything(c).due(1, "orbits");
        }
    }

    // ---- Promise 16: "pairs of different places (of which those are alike that the group carries into each
    // other, in either order)"

    private static void fewestAndMostPairKinds() {
        for (int c = 1; c <= 3; c++) {
            // 15, not 21: a place is no pair with itself; not 30: the two orders of a pair are alike.
            with(c).due(15, "pairKinds");
            with(c, IDENTITY).due(15, "pairKinds");
            everything(c).due(1, "pairKinds");
        }
        with(2, TURN_OF_FIRST_THREE, TURN_OF_LAST_FIVE).due(1, "pairKinds");
    }

    private static void pairsInEitherOrder() {
        // No rearrangement of these groups turns a pair around, save those of the turn that lie opposite.
        with(2, TURN_OF_FIRST_THREE).due(1 + 3 + 3, "pairKinds");
        with(2, TURN_OF_FIRST_THREE, TURN_OF_LAST_THREE).due(1 + 1 + 1, "pairKinds");
        with(2, TURN_OF_LAST_FIVE).due(1 + 2, "pairKinds");
        with(2, TURN_OF_SIX).due(3, "pairKinds");
        // The pair that a swap turns around is a kind by itself.
        with(2, SWAP_45).due(1 + 4 + 6, "pairKinds");
        // 0 and 5 are carried to 5 and 0: the higher place first.
        with(2, MIRROR).due(3 + 6, "pairKinds");
        with(2, SWAP_01, SWAP_23, SWAP_45).due(3 + 3, "pairKinds");
    }

    public static void main(String[] args) {
        section("at most 512 calls", BoundsTest::the512thCallStillHolds);
        section("places are 0 to 5", BoundsTest::theLeastAndTheGreatestCode);
        section("places are 0 to 5", BoundsTest::eachPlaceOfACodeCounts);
        section("at most 3 generators", BoundsTest::threeGeneratorsAllCount);
        section("the group has the identity", BoundsTest::theGroupOfNoneOrTheIdentity);
        section("in any order and number", BoundsTest::theGroupOfOneGenerator);
        section("in any order and number", BoundsTest::theGroupOfAllRearrangements);
        section("the number of a colouring", BoundsTest::theLeastAndTheGreatestNumber);
        section("the name is the least number", BoundsTest::namesAndSizesFitTogether);
        section("no call ever throws", BoundsTest::noCallEverThrows);
        section("a refused call changes nothing", BoundsTest::aRefusedCallChangesNothing);
        section("a refused call changes nothing", BoundsTest::aRefusedFirstCallChangesNothing);
        section("the constants", BoundsTest::theConstants);
        section("1: no generator; c is 2", BoundsTest::aNewObject);
        section("2: BAD_ARG comes before FULL", BoundsTest::noCodeIsRefusedAtEveryNumberOfGenerators);
        section("2: no code of a rearrangement", BoundsTest::everyNumberBelow46656);
        section("2: FULL", BoundsTest::fullIsAtThree);
        section("3: NONE if there is none", BoundsTest::removeFromNone);
        section("3: otherwise its code", BoundsTest::removeAnswersEveryCode);
        section("3: the last generator alone", BoundsTest::removeOneOfTwoThatAreTheSame);
        section("4: otherwise what it was", BoundsTest::coloursFromEachToEach);
        section("4: c becomes n", BoundsTest::coloursStayWhenGeneratorsChange);
        section("4: BAD_ARG if n is not 1 to 3", BoundsTest::coloursOutOfRange);
        section("6: 0 if k is not 1 to 6", BoundsTest::cyclesOutOfRange);
        section("6: exactly k cycles", BoundsTest::fewestAndMostCycles);
        section("7: the number of kinds", BoundsTest::fewestAndMostKinds);
        section("8: 0 if there can be none", BoundsTest::placesThatCanNotBe);
        section("8: 0 if there can be none", BoundsTest::placesFarOut);
        section("8: exactly m and n places", BoundsTest::everyKindHasItsPlaces);
        section("9: every colour at some place", BoundsTest::everyColourAtSomePlace);
        section("10: NONE if there is no such colouring", () -> noSuchColouring("name"));
        section("10: NONE if there is no such colouring", () -> numbersOfMoreColoursAreNoneWithFewer("name"));
        section("11: NONE if there is no such colouring", () -> noSuchColouring("size"));
        section("11: NONE if there is no such colouring", () -> numbersOfMoreColoursAreNoneWithFewer("size"));
        section("12: false if one of them is none", BoundsTest::noneIsAlikeToNothing);
        section("12: false if one of them is none", BoundsTest::whatWasAlikeIsNoneWithFewerColours);
        section("12: both of one kind", BoundsTest::alikeForEachPair);
        section("13: only one colouring", BoundsTest::fewestAndMostStill);
        section("14: all kinds if c is 1", BoundsTest::selfExchangedWithOneColour);
        section("14: colours 0 and 1 exchanged", BoundsTest::selfExchangedWithMore);
        section("15: greatest sets", BoundsTest::fewestAndMostOrbits);
        section("16: pairs of different places", BoundsTest::fewestAndMostPairKinds);
        section("16: in either order", BoundsTest::pairsInEitherOrder);
        System.out.println(wrong == 0 ? "all answers are as due" : wrong + " answers are not as due");
        if (wrong != 0) {
            System.exit(1);
        }
    }
}
