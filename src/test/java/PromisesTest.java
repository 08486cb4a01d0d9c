/** The promises of the document one after the other, with answers worked out by hand or known from the books. */
public final class PromisesTest {
    private static final int BAD_ARG = -1;
    private static final int FULL = -2;
    private static final int NONE = -4;

    private static final int IDENTITY = code(0, 1, 2, 3, 4, 5);
    private static final int SWAP_01 = code(1, 0, 2, 3, 4, 5);
    private static final int TURN_OF_SIX = code(1, 2, 3, 4, 5, 0);
    private static final int TURN_OF_FIRST_THREE = code(1, 2, 0, 3, 4, 5);
    private static final int MIRROR = code(5, 4, 3, 2, 1, 0);
    // The faces of a cube: 0 above, 5 below, 1 to 4 around.
    private static final int CUBE_UPRIGHT = code(0, 2, 3, 4, 1, 5);
    private static final int CUBE_OVER = code(1, 5, 2, 0, 4, 3);

    private static final int[] FAR_OUT = {
        Integer.MIN_VALUE, Integer.MIN_VALUE + 1, -46656, -729, -64, -7, -4, -2, -1,
        46656, 46657, 1 << 20, Integer.MAX_VALUE - 1, Integer.MAX_VALUE,
    };

    private static int wrong = 0;

    private static void due(String call, int got, int want) {
        if (got != want) {
            wrong++;
            System.out.println(call + " answered " + got + ", due is " + want);
        }
    }

    private static void due(String call, boolean got, boolean want) {
        due(call, got ? 1 : 0, want ? 1 : 0);
    }

    private static int code(int... carried) {
        int code = 0;
        for (int place = 5; place >= 0; place--) {
            code = 6 * code + carried[place];
        }
        return code;
    }

    private static ColourKinds with(int colours, int... generators) {
        ColourKinds x = new ColourKinds();
        for (int i = 0; i < generators.length; i++) {
            due("setup: add(" + generators[i] + ")", x.add(generators[i]), i + 1);
        }
        due("setup: colours(" + colours + ")", x.colours(colours), 2);
        return x;
    }

    private static ColourKinds cube(int colours) {
        return with(colours, CUBE_UPRIGHT, CUBE_OVER);
    }

    private static ColourKinds everything(int colours) {
        return with(colours, SWAP_01, TURN_OF_SIX);
    }

    private static void constants() {
        due("BAD_ARG", ColourKinds.BAD_ARG, BAD_ARG);
        due("FULL", ColourKinds.FULL, FULL);
        due("NONE", ColourKinds.NONE, NONE);
    }

    private static void promise1NewObject() {
        due("1: remove() on a new object", new ColourKinds().remove(), NONE);
        due("1: colours(1) on a new object", new ColourKinds().colours(1), 2);
        due("1: order() on a new object", new ColourKinds().order(), 1);
        due("1: kinds() on a new object", new ColourKinds().kinds(), 64);
        due("1: add on a new object", new ColourKinds().add(SWAP_01), 1);
        ColourKinds changed = everything(3);
        ColourKinds fresh = new ColourKinds();
        due("1: kinds() beside another object", fresh.kinds(), 64);
        due("1: kinds() of that other object", changed.kinds(), 28);
    }

    private static boolean isRearrangement(int g) {
        boolean[] reached = new boolean[6];
        int rest = g;
        for (int place = 0; place < 6; place++) {
            if (reached[rest % 6]) {
                return false;
            }
            reached[rest % 6] = true;
            rest /= 6;
        }
        return true;
    }

    private static void promise2Add() {
        int accepted = 0;
        ColourKinds x = new ColourKinds();
        for (int g = 0; g < 46656; g++) {
            if (g % 200 == 0) {
                x = new ColourKinds();
            }
            boolean good = isRearrangement(g);
            due("2: add(" + g + ")", x.add(g), good ? 1 : BAD_ARG);
            if (good) {
                accepted++;
                due("2: remove() after add(" + g + ")", x.remove(), g);
            }
        }
        due("2: codes accepted", accepted, 720);

        x = new ColourKinds();
        for (int g : FAR_OUT) {
            due("2: add(" + g + ")", x.add(g), BAD_ARG);
        }
        // Their six lowest digits are a rearrangement's, but the number is no code.
        for (int high : new int[] {1, 2, 6, 46000}) {
            int g = TURN_OF_SIX + 46656 * high;
            due("2: add(" + g + ")", x.add(g), BAD_ARG);
        }
        due("2: add of a code below 0", x.add(TURN_OF_SIX - 46656), BAD_ARG);
        due("2: add of a code with its sign turned", x.add(-TURN_OF_SIX), BAD_ARG);
        due("2: first", x.add(TURN_OF_SIX), 1);
        due("2: the same again", x.add(TURN_OF_SIX), 2);
        due("2: the identity", x.add(IDENTITY), 3);
        due("2: a fourth", x.add(SWAP_01), FULL);
        due("2: a fourth that is none", x.add(0), BAD_ARG);
        due("2: a fourth out of range", x.add(46656), BAD_ARG);
        due("2: order() after refusals", x.order(), 6);
        due("2: remove() after refusals", x.remove(), IDENTITY);
        due("2: room again", x.add(SWAP_01), 3);
        due("2: order() with the new one", x.order(), 720);
    }

    private static void promise3Remove() {
        ColourKinds x = with(2, SWAP_01, TURN_OF_SIX, MIRROR);
        due("3: the last", x.remove(), MIRROR);
        due("3: order() with two left", x.order(), 720);
        due("3: the second", x.remove(), TURN_OF_SIX);
        due("3: order() with one left", x.order(), 2);
        due("3: kinds() with one left", x.kinds(), 48);
        due("3: the first", x.remove(), SWAP_01);
        due("3: kinds() with none left", x.kinds(), 64);
        due("3: none left", x.remove(), NONE);
        due("3: none left again", x.remove(), NONE);
        due("3: add after refusals", x.add(TURN_OF_FIRST_THREE), 1);
        due("3: order() after refusals", x.order(), 3);
    }

    private static void promise4Colours() {
        ColourKinds x = new ColourKinds();
        due("4: colours(3)", x.colours(3), 2);
        due("4: kinds() with 3", x.kinds(), 729);
        due("4: colours(0)", x.colours(0), BAD_ARG);
        due("4: colours(4)", x.colours(4), BAD_ARG);
        for (int n : FAR_OUT) {
            due("4: colours(" + n + ")", x.colours(n), BAD_ARG);
        }
        due("4: kinds() after refusals", x.kinds(), 729);
        due("4: colours(3) again", x.colours(3), 3);
        due("4: colours(1)", x.colours(1), 3);
        due("4: kinds() with 1", x.kinds(), 1);
        due("4: colours(2)", x.colours(2), 1);
        due("4: kinds() with 2", x.kinds(), 64);
        due("4: add, then", x.add(TURN_OF_SIX), 1);
        due("4: colours(3) with a generator", x.colours(3), 2);
        due("4: remove() after it", x.remove(), TURN_OF_SIX);
    }

    private static void promise5Order() {
        due("5: the identity alone", with(2, IDENTITY).order(), 1);
        due("5: a swap", with(2, SWAP_01).order(), 2);
        due("5: a turn of six", with(2, TURN_OF_SIX).order(), 6);
        due("5: the hexagon", with(2, TURN_OF_SIX, MIRROR).order(), 12);
        due("5: the cube", cube(1).order(), 24);
        due("5: all", everything(3).order(), 720);
        due("5: the even ones", with(2, TURN_OF_FIRST_THREE, code(0, 2, 3, 4, 5, 1)).order(), 360);
        due("5: three swaps apart", with(2, SWAP_01, code(0, 1, 3, 2, 4, 5), code(0, 1, 2, 3, 5, 4)).order(), 8);
    }

    private static void promise6WithCycles() {
        int[] none = {0, 0, 0, 0, 0, 0, 1, 0};
        int[] turn = {0, 2, 2, 1, 0, 0, 1, 0};
        int[] cube = {0, 0, 8, 12, 3, 0, 1, 0};
        int[] all = {0, 120, 274, 225, 85, 15, 1, 0};
        for (int k = 0; k <= 7; k++) {
            due("6: no generator, withCycles(" + k + ")", new ColourKinds().withCycles(k), none[k]);
            due("6: turn of six, withCycles(" + k + ")", with(2, TURN_OF_SIX).withCycles(k), turn[k]);
            due("6: cube, withCycles(" + k + ")", cube(3).withCycles(k), cube[k]);
            due("6: all, withCycles(" + k + ")", everything(1).withCycles(k), all[k]);
        }
        ColourKinds x = everything(2);
        for (int k : FAR_OUT) {
            due("6: withCycles(" + k + ")", x.withCycles(k), 0);
        }
    }

    private static void promise7Kinds() {
        int[] none = {1, 64, 729};
        int[] necklaces = {1, 14, 130};
        int[] bracelets = {1, 13, 92};
        int[] cube = {1, 10, 57};
        int[] all = {1, 7, 28};
        for (int c = 1; c <= 3; c++) {
            due("7: no generator, " + c + " colours", with(c).kinds(), none[c - 1]);
            due("7: necklaces, " + c + " colours", with(c, TURN_OF_SIX).kinds(), necklaces[c - 1]);
            due("7: bracelets, " + c + " colours", with(c, TURN_OF_SIX, MIRROR).kinds(), bracelets[c - 1]);
            due("7: cube, " + c + " colours", cube(c).kinds(), cube[c - 1]);
            due("7: all, " + c + " colours", everything(c).kinds(), all[c - 1]);
        }
    }

    private static void promise8KindsWith() {
        int[] cube = {1, 1, 2, 2, 2, 1, 1};
        ColourKinds one = cube(1);
        ColourKinds two = cube(2);
        ColourKinds none = with(3);
        int[] factorial = {1, 1, 2, 6, 24, 120, 720};
        for (int m = -1; m <= 7; m++) {
            for (int n = -1; n <= 7; n++) {
                String call = "kindsWith(" + m + ", " + n + ")";
                boolean fits = m >= 0 && n >= 0 && m + n <= 6;
                due("8: one colour, " + call, one.kindsWith(m, n), m == 6 && n == 0 ? 1 : 0);
                due("8: cube, " + call, two.kindsWith(m, n), fits && m + n == 6 ? cube[m] : 0);
                int ways = fits ? 720 / factorial[m] / factorial[n] / factorial[6 - m - n] : 0;
                due("8: three colours, no generator, " + call, none.kindsWith(m, n), ways);
            }
        }
        due("8: cube, three colours, kindsWith(2, 2)", cube(3).kindsWith(2, 2), 6);
        due("8: only colours 0 and 1 are counted", with(3, SWAP_01).kindsWith(0, 0), 1);
        // m + n wraps around to 6 in these.
        due("8: sum 6 around the end", two.kindsWith(Integer.MIN_VALUE, Integer.MIN_VALUE + 6), 0);
        due("8: sum 6 with one below 0", two.kindsWith(7, -1), 0);
        for (int m : FAR_OUT) {
            due("8: kindsWith(" + m + ", 0)", none.kindsWith(m, 0), 0);
            due("8: kindsWith(0, " + m + ")", none.kindsWith(0, m), 0);
            due("8: kindsWith(" + m + ", " + (6 - m) + ")", two.kindsWith(m, 6 - m), 0);
        }
    }

    private static void promise9KindsWithAll() {
        int[] none = {1, 62, 540};
        int[] necklaces = {1, 12, 91};
        int[] cube = {1, 8, 30};
        int[] all = {1, 5, 10};
        for (int c = 1; c <= 3; c++) {
            due("9: no generator, " + c + " colours", with(c).kindsWithAll(), none[c - 1]);
            due("9: necklaces, " + c + " colours", with(c, TURN_OF_SIX).kindsWithAll(), necklaces[c - 1]);
            due("9: cube, " + c + " colours", cube(c).kindsWithAll(), cube[c - 1]);
            due("9: all, " + c + " colours", everything(c).kindsWithAll(), all[c - 1]);
        }
    }

    private static void promise10Name() {
        ColourKinds none = with(3);
        for (int colouring = 0; colouring < 729; colouring += 7) {
            due("10: no generator, name(" + colouring + ")", none.name(colouring), colouring);
        }
        ColourKinds turned = with(2, TURN_OF_SIX);
        due("10: one bead", turned.name(32), 1);
        due("10: two beads side by side", turned.name(33), 3);
        due("10: two beads opposite", turned.name(36), 9);
        due("10: every other bead", turned.name(42), 21);
        due("10: all beads", turned.name(63), 63);
        ColourKinds all = everything(2);
        for (int colouring = 0; colouring < 64; colouring++) {
            due("10: all, name(" + colouring + ")", all.name(colouring), (1 << Integer.bitCount(colouring)) - 1);
        }
        due("10: a 2 and a 1 among three colours", everything(3).name(2 * 243 + 1), 2 + 3);
        noSuchColouring("10: name", 1);
        noSuchColouring("10: name", 2);
        noSuchColouring("10: name", 3);
    }

    private static void noSuchColouring(String what, int c) {
        ColourKinds x = with(c, TURN_OF_SIX);
        int past = c == 1 ? 1 : c == 2 ? 64 : 729;
        boolean name = what.endsWith("name");
        for (int i = -1; i < FAR_OUT.length; i++) {
            int colouring = i < 0 ? past : FAR_OUT[i];
            int got = name ? x.name(colouring) : x.size(colouring);
            due(what + "(" + colouring + ") of " + c + " colours", got, NONE);
        }
        int last = name ? x.name(past - 1) : x.size(past - 1);
        due(what + " of the last of " + c + " colours", last, name ? past - 1 : 1);
    }

    private static void promise11Size() {
        ColourKinds none = with(3);
        for (int colouring = 0; colouring < 729; colouring += 7) {
            due("11: no generator, size(" + colouring + ")", none.size(colouring), 1);
        }
        ColourKinds turned = with(2, TURN_OF_SIX);
        due("11: one bead", turned.size(32), 6);
        due("11: two beads opposite", turned.size(36), 3);
        due("11: every other bead", turned.size(42), 2);
        due("11: all beads", turned.size(63), 1);
        due("11: add the mirror", turned.add(MIRROR), 2);
        due("11: a chiral necklace becomes a larger kind", turned.size(11), 12);
        int[] chosen = {1, 6, 15, 20, 15, 6, 1};
        ColourKinds all = everything(2);
        for (int colouring = 0; colouring < 64; colouring++) {
            due("11: all, size(" + colouring + ")", all.size(colouring), chosen[Integer.bitCount(colouring)]);
        }
        due("11: two of each colour", everything(3).size(3 + 9 * 1 + 27 * 2 + 243 * 2), 90);
        noSuchColouring("11: size", 1);
        noSuchColouring("11: size", 2);
        noSuchColouring("11: size", 3);
    }

    private static void promise12Alike() {
        ColourKinds turned = with(2, TURN_OF_SIX);
        due("12: one bead each", turned.alike(1, 32), true);
        due("12: the other way round", turned.alike(32, 1), true);
        due("12: itself", turned.alike(11, 11), true);
        due("12: side by side and opposite", turned.alike(3, 9), false);
        due("12: one and two beads", turned.alike(1, 3), false);
        due("12: mirror images without a mirror", turned.alike(11, 52), false);
        turned.add(MIRROR);
        due("12: mirror images with a mirror", turned.alike(11, 52), true);
        due("12: the colour matters", everything(3).alike(1, 2), false);
        due("12: one colour", with(1).alike(0, 0), true);
        for (int c = 1; c <= 3; c++) {
            ColourKinds x = with(c);
            int past = c == 1 ? 1 : c == 2 ? 64 : 729;
            due("12: the last", x.alike(past - 1, past - 1), true);
            due("12: none twice", x.alike(past, past), false);
            due("12: first none", x.alike(past, 0), false);
            due("12: second none", x.alike(0, past), false);
            for (int none : FAR_OUT) {
                due("12: alike(" + none + ", itself)", x.alike(none, none), false);
                due("12: alike(0, " + none + ")", x.alike(0, none), false);
                due("12: alike(" + none + ", 0)", x.alike(none, 0), false);
            }
        }
    }

    private static void promise13Still() {
        int[] sixth = {1, 64, 729};
        for (int c = 1; c <= 3; c++) {
            due("13: no generator, " + c + " colours", with(c).still(), sixth[c - 1]);
            due("13: turn of six, " + c + " colours", with(c, TURN_OF_SIX).still(), c);
            due("13: swap, " + c + " colours", with(c, SWAP_01).still(), c * c * c * c * c);
            due("13: turn of three, " + c + " colours", with(c, TURN_OF_FIRST_THREE).still(), c * c * c * c);
        }
    }

    private static void promise14SelfExchanged() {
        due("14: one colour", with(1).selfExchanged(), 1);
        due("14: one colour, all", everything(1).selfExchanged(), 1);
        due("14: no generator, two colours", with(2).selfExchanged(), 0);
        due("14: no generator, three colours: all of colour 2", with(3).selfExchanged(), 1);
        due("14: necklaces", with(2, TURN_OF_SIX).selfExchanged(), 2);
        due("14: bracelets", with(2, TURN_OF_SIX, MIRROR).selfExchanged(), 3);
        due("14: bracelets, three colours", with(3, TURN_OF_SIX, MIRROR).selfExchanged(), 12);
        due("14: cube", cube(2).selfExchanged(), 2);
        due("14: all, two colours", everything(2).selfExchanged(), 1);
        due("14: all, three colours", everything(3).selfExchanged(), 4);
        due("14: swap, three colours: 2 at all other places", with(3, SWAP_01).selfExchanged(), 2);
    }

    private static void promise15Orbits() {
        due("15: no generator", new ColourKinds().orbits(), 6);
        due("15: swap", with(2, SWAP_01).orbits(), 5);
        due("15: swap of the last", with(3, code(0, 1, 2, 3, 5, 4)).orbits(), 5);
        due("15: turn of three", with(1, TURN_OF_FIRST_THREE).orbits(), 4);
        due("15: turn of six", with(2, TURN_OF_SIX).orbits(), 1);
        due("15: mirror", with(2, MIRROR).orbits(), 3);
        due("15: two swaps apart", with(2, SWAP_01, code(0, 1, 2, 3, 5, 4)).orbits(), 4);
        due("15: two swaps that meet", with(2, SWAP_01, code(0, 2, 1, 3, 4, 5)).orbits(), 4);
        due("15: cube", cube(2).orbits(), 1);
    }

    private static void promise16PairKinds() {
        due("16: no generator", new ColourKinds().pairKinds(), 15);
        due("16: swap: its own pair, four joined, six apart", with(2, SWAP_01).pairKinds(), 11);
        due("16: turn of six: by distance", with(1, TURN_OF_SIX).pairKinds(), 3);
        due("16: turn of three", with(3, TURN_OF_FIRST_THREE).pairKinds(), 1 + 3 + 3);
        due("16: mirror", with(2, MIRROR).pairKinds(), 3 + 6);
        due("16: cube: side by side or opposite", cube(2).pairKinds(), 2);
        due("16: all", everything(3).pairKinds(), 1);
    }

    public static void main(String[] args) {
        constants();
        promise1NewObject();
        promise2Add();
        promise3Remove();
        promise4Colours();
        promise5Order();
        promise6WithCycles();
        promise7Kinds();
        promise8KindsWith();
        promise9KindsWithAll();
        promise10Name();
        promise11Size();
        promise12Alike();
        promise13Still();
        promise14SelfExchanged();
        promise15Orbits();
        promise16PairKinds();
        System.out.println(wrong == 0 ? "all answers are as due" : wrong + " answers are not as due");
        if (wrong != 0) {
            System.exit(1);
        }
    }
}
