/**
 * Colourings of six places, of which those are taken as alike that a rearrangement
 * carries into each other.
 *
 * The group and the kinds are worked out whenever the generators or the colours change,
 * so that every question is a count over lists that already stand.
 */
public final class ColourKinds {
    public static final int BAD_ARG = -1;
    public static final int FULL = -2;
    public static final int NONE = -4;

    private static final int PLACES = 6;
    private static final int REARRANGEMENT_CODES = 46656;
    private static final int IDENTITY = 44790;
    private static final int MOST_GENERATORS = 3;
    private static final int MOST_REARRANGEMENTS = 720;
    private static final int MOST_COLOURS = 3;
    private static final int MOST_COLOURINGS = 729;

    private final int[] generators = new int[MOST_GENERATORS];
    private int generatorCount = 0;

    private final int[] group = new int[MOST_REARRANGEMENTS];
    private int groupOrder = 0;

    private int colourCount = 2;
    private int colouringCount = 0;

    private final int[] kindName = new int[MOST_COLOURINGS];
    // Holds only at the indices that are names of kinds.
    private final int[] kindSize = new int[MOST_COLOURINGS];

    public ColourKinds() {
        closeGroup();
        gatherKinds();
    }

    public int add(int g) {
        if (!isRearrangement(g)) {
            return BAD_ARG;
        }
        if (generatorCount >= MOST_GENERATORS) {
            return FULL;
        }
        generators[generatorCount] = g;
        generatorCount++;
        closeGroup();
        gatherKinds();
        return generatorCount;
    }

    public int remove() {
        if (generatorCount <= 0) {
            return NONE;
        }
        generatorCount--;
        int last = generators[generatorCount];
        closeGroup();
        gatherKinds();
        return last;
    }

    public int colours(int n) {
        if (n < 1 || n > MOST_COLOURS) {
            return BAD_ARG;
        }
        int before = colourCount;
        colourCount = n;
        gatherKinds();
        return before;
    }

    public int order() {
        return groupOrder;
    }

    public int withCycles(int k) {
        int count = 0;
        for (int e = 0; e < groupOrder; e++) {
            int cycles = cycleCount(group[e]);
            if (cycles == k) {
                count++;
            }
        }
        return count;
    }

    public int kinds() {
        int count = 0;
        for (int colouring = 0; colouring < colouringCount; colouring++) {
            if (isName(colouring)) {
                count++;
            }
        }
        return count;
    }

    public int kindsWith(int m, int n) {
        int count = 0;
        for (int colouring = 0; colouring < colouringCount; colouring++) {
            if (isName(colouring) && placesWith(colouring, 0) == m && placesWith(colouring, 1) == n) {
                count++;
            }
        }
        return count;
    }

    public int kindsWithAll() {
        int count = 0;
        for (int colouring = 0; colouring < colouringCount; colouring++) {
            if (isName(colouring) && hasEveryColour(colouring)) {
                count++;
            }
        }
        return count;
    }

    public int name(int colouring) {
        if (!isColouring(colouring)) {
            return NONE;
        }
        return kindName[colouring];
    }

    public int size(int colouring) {
        int name = name(colouring);
        return isColouring(name) ? kindSize[name] : NONE;
    }

    public boolean alike(int colouring, int other) {
        if (!isColouring(colouring) || !isColouring(other)) {
            return false;
        }
        return kindName[colouring] == kindName[other];
    }

    public int still() {
        int count = 0;
        for (int colouring = 0; colouring < colouringCount; colouring++) {
            if (isName(colouring) && kindSize[colouring] == 1) {
                count++;
            }
        }
        return count;
    }

    public int selfExchanged() {
        int count = 0;
        for (int colouring = 0; colouring < colouringCount; colouring++) {
            if (isName(colouring) && isSelfExchanged(colouring)) {
                count++;
            }
        }
        return count;
    }

    public int orbits() {
        int count = 0;
        for (int place = 0; place < PLACES; place++) {
            if (isLeastOfOrbit(place)) {
                count++;
            }
        }
        return count;
    }

    public int pairKinds() {
        int count = 0;
        for (int low = 0; low < PLACES; low++) {
            for (int high = low + 1; high < PLACES; high++) {
                if (isLeastOfPairKind(low, high)) {
                    count++;
                }
            }
        }
        return count;
    }

    // Colourings and rearrangements are both numbers of six digits, lowest place first:
    // colourings to the base c, rearrangements to the base 6.
    private static int digit(int number, int base, int place) {
        // One colour leaves only the digit 0, and what is less than that is no divisor.
        if (base <= 1) {
            return 0;
        }
        int rest = number;
        for (int i = 0; i < place; i++) {
            rest /= base;
        }
        return rest % base;
    }

    private static int power(int base, int exponent) {
        int product = 1;
        for (int i = 0; i < exponent; i++) {
            product *= base;
        }
        return product;
    }

    private static boolean isRearrangement(int code) {
        if (code < 0 || code >= REARRANGEMENT_CODES) {
            return false;
        }
        int reached = 0;
        for (int place = 0; place < PLACES; place++) {
            reached |= 1 << digit(code, PLACES, place);
        }
        // Six places reach all six only if no two of them reach the same.
        return reached == (1 << PLACES) - 1;
    }

    private static int oneAfterTheOther(int first, int second) {
        int code = 0;
        for (int place = 0; place < PLACES; place++) {
            int between = digit(first, PLACES, place);
            code += digit(second, PLACES, between) * power(PLACES, place);
        }
        return code;
    }

    private static int cycleCount(int code) {
        int count = 0;
        for (int place = 0; place < PLACES; place++) {
            if (isLeastOfCycle(code, place)) {
                count++;
            }
        }
        return count;
    }

    private static boolean isLeastOfCycle(int code, int place) {
        int at = place;
        for (int step = 0; step < PLACES; step++) {
            at = digit(code, PLACES, at);
            if (at < place) {
                return false;
            }
        }
        return true;
    }

    // Inverses need no step of their own: with finitely many rearrangements,
    // doing a generator often enough undoes it.
    private void closeGroup() {
        group[0] = IDENTITY;
        groupOrder = 1;
        for (int e = 0; e < MOST_REARRANGEMENTS && e < groupOrder; e++) {
            for (int i = 0; i < generatorCount; i++) {
                int code = oneAfterTheOther(group[e], generators[i]);
                enlist(code);
            }
        }
    }

    private void enlist(int code) {
        if (!isInGroup(code) && groupOrder < MOST_REARRANGEMENTS) {
            group[groupOrder] = code;
            groupOrder++;
        }
    }

    private boolean isInGroup(int code) {
        for (int e = 0; e < groupOrder; e++) {
            if (group[e] == code) {
                return true;
            }
        }
        return false;
    }

    // Going upwards, the first colouring of a kind that is met is its least, and so its name.
    private void gatherKinds() {
        colouringCount = power(colourCount, PLACES);
        for (int colouring = 0; colouring < colouringCount; colouring++) {
            kindName[colouring] = NONE;
        }
        for (int colouring = 0; colouring < colouringCount; colouring++) {
            if (kindName[colouring] == NONE) {
                gatherKind(colouring);
            }
        }
    }

    private void gatherKind(int least) {
        kindSize[least] = 0;
        for (int e = 0; e < groupOrder; e++) {
            int made = rearranged(least, group[e]);
            if (isColouring(made) && kindName[made] == NONE) {
                kindName[made] = least;
                kindSize[least]++;
            }
        }
    }

    private int rearranged(int colouring, int code) {
        int made = 0;
        for (int place = 0; place < PLACES; place++) {
            int target = digit(code, PLACES, place);
            made += digit(colouring, colourCount, place) * power(colourCount, target);
        }
        return made;
    }

    private boolean isColouring(int number) {
        return number >= 0 && number < colouringCount;
    }

    private boolean isName(int colouring) {
        return kindName[colouring] == colouring;
    }

    private int placesWith(int colouring, int colour) {
        int count = 0;
        for (int place = 0; place < PLACES; place++) {
            if (digit(colouring, colourCount, place) == colour) {
                count++;
            }
        }
        return count;
    }

    private boolean hasEveryColour(int colouring) {
        for (int colour = 0; colour < colourCount; colour++) {
            if (placesWith(colouring, colour) == 0) {
                return false;
            }
        }
        return true;
    }

    // Exchanging colours and rearranging places don't disturb each other,
    // so one colouring of a kind speaks for all of them.
    private boolean isSelfExchanged(int name) {
        if (colourCount == 1) {
            return true;
        }
        int other = exchanged(name);
        return isColouring(other) && kindName[other] == name;
    }

    private int exchanged(int colouring) {
        int made = 0;
        for (int place = 0; place < PLACES; place++) {
            int colour = digit(colouring, colourCount, place);
            int swapped = colour == 0 ? 1 : colour == 1 ? 0 : colour;
            made += swapped * power(colourCount, place);
        }
        return made;
    }

    private boolean isLeastOfOrbit(int place) {
        for (int e = 0; e < groupOrder; e++) {
            if (digit(group[e], PLACES, place) < place) {
                return false;
            }
        }
        return true;
    }

    private boolean isLeastOfPairKind(int low, int high) {
        int own = pairNumber(low, high);
        for (int e = 0; e < groupOrder; e++) {
            int one = digit(group[e], PLACES, low);
            int two = digit(group[e], PLACES, high);
            int carried = pairNumber(one, two);
            if (carried < own) {
                return false;
            }
        }
        return true;
    }

    // The same for both orders of the two places.
    private static int pairNumber(int one, int two) {
        return one < two ? one * PLACES + two : two * PLACES + one;
    }
}
