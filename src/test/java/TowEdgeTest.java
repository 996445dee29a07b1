/**
 * The edges of promises 12 to 14 and 17, and of what "Terms" tells of WAYS, BEST WAY, BEST and
 * DRAWN: of each sentence that names a boundary the call just inside and the call just outside
 * it, and that refusals change nothing.
 */
public final class TowEdgeTest {
    private static final int NONE = -1;
    private static final int UNKNOWN = -101;
    private static final int OUTSIDE = -102;
    private static final int NO_WAY = -100001;
    private static final int FAR_UNKNOWN = -100101;
    private static final int FAR_OUTSIDE = -100102;
    private static final int MIN = Integer.MIN_VALUE;
    private static final int MAX = Integer.MAX_VALUE;

    public static void main(String[] args) {
        whatOfATow();
        lastStepAndNone();
        tugsOfATow();
        refusedTows();
        noWay();
        oneWayMore();
        waysAtTheRim();
        waysOfBergs();
        greatestGainAheadOfDays();
        fewestDaysAheadOfTheFirst();
        theFirstOfLikeOnes();
        bestOfOneToEleven();
        fewestTugsAheadOfNoSkirt();
        withoutAheadOfWith();
        greatestOfAllTugs();
        whatOfBest();
        drawsOfThree();
        seedWrapsAround();
        warmthDrawnIsZeroAtLeast();
        drawnUntilGone();
        drawnDaysByCurrents();
        refusedDraws();
        Check.end();
    }

    // ---- promise 12: tow

    private static IceForCoast nineSteps() {
        IceForCoast ice = Check.at("000000/000000/000000/000000/00000h");
        ice.berg(0, 0, 100, 99, 0);
        return ice;
    }

    /** "what = 0 WATER, 1 DAYS, 2 GAIN .., 3 how many steps, 10 to 18 the so-manieth step" */
    private static void whatOfATow() {
        IceForCoast ice = nineSteps();
        Check.due("water", ice.tow(0, 11, false, 0), 91);
        Check.due("days", ice.tow(0, 11, false, 1), 9);
        Check.due("gain", ice.tow(0, 11, false, 2), 3 * 91 - 99);
        Check.due("steps", ice.tow(0, 11, false, 3), 9);
        int[] steps = {1, 1, 1, 1, 1, 2, 2, 2, 2};
        for (int i = 0; i < 9; i++) {
            Check.due("step " + i, ice.tow(0, 11, false, 10 + i), steps[i]);
        }
        for (int what : new int[] {MIN, -1, 4, 5, 9, 19, 20, MAX}) {
            Check.refused(ice, "tow(.., " + what + ")", () -> ice.tow(0, 11, false, what), FAR_OUTSIDE);
        }
    }

    /** "(0 to 3; NONE: there is none)": the last step of a way, and the one behind it. */
    private static void lastStepAndNone() {
        for (int width = 2; width <= 6; width++) {
            IceForCoast ice = Check.at("0".repeat(width - 1) + "h/" + "0".repeat(width));
            ice.berg(0, 0, 100, 99, 0);
            Check.due("how many steps", ice.tow(0, 1, false, 3), width - 1);
            Check.due("the last", ice.tow(0, 1, false, 10 + width - 2), 1);
            for (int what = 10 + width - 1; what <= 18; what++) {
                Check.due("none behind it: " + what, ice.tow(0, 1, false, what), NONE);
            }
        }
        // A long way before leaves nothing of its steps behind a short one.
        IceForCoast ice = nineSteps();
        ice.berg(0, 28, 100, 99, 0);
        ice.tow(0, 1, false, 18);
        Check.due("short: the first step", ice.tow(1, 1, false, 10), 1);
        Check.due("short: none behind it", ice.tow(1, 1, false, 11), NONE);
        Check.due("short: no last", ice.tow(1, 1, false, 18), NONE);
    }

    /** "tugs (1 to 11)" */
    private static void tugsOfATow() {
        IceForCoast ice = Check.at("0h/##");
        ice.berg(0, 0, 219, 99, 0);
        for (boolean skirt : new boolean[] {false, true}) {
            Check.due("by one: days", ice.tow(0, 1, skirt, 1), 11);
            Check.due("by ten: days", ice.tow(0, 10, skirt, 1), 2);
            Check.due("by eleven: days", ice.tow(0, 11, skirt, 1), 1);
            for (int tugs : new int[] {MIN, -1, 0, 12, MAX}) {
                Check.refused(ice, "tow by " + tugs, () -> ice.tow(0, tugs, skirt, 1), FAR_OUTSIDE);
                Check.refused(ice, "drawn by " + tugs, () -> ice.drawn(0, tugs, skirt, 1, 1), OUTSIDE);
                Check.refused(ice, "came by " + tugs, () -> ice.came(0, tugs, skirt, 1, 1), OUTSIDE);
            }
        }
    }

    private static void refusedTows() {
        IceForCoast ice = nineSteps();
        for (int berg : new int[] {MIN, -1, 1, 4, 5, MAX}) {
            Check.refused(ice, "tow(" + berg + ", ..)", () -> ice.tow(berg, 1, false, 0), FAR_UNKNOWN);
            Check.refused(ice, "tow(" + berg + ", by 0)", () -> ice.tow(berg, 0, false, 0), FAR_UNKNOWN);
            Check.refused(ice, "tow(" + berg + ", what 4)", () -> ice.tow(berg, 1, true, 4), FAR_UNKNOWN);
            Check.refused(ice, "ways(" + berg + ")", () -> ice.ways(berg), UNKNOWN);
        }
        IceForCoast none = new IceForCoast();
        Check.refused(none, "tow without a sea", () -> none.tow(0, 0, false, 4), FAR_UNKNOWN);
        Check.refused(none, "ways without a sea", () -> none.ways(0), UNKNOWN);
        Check.refused(none, "best without a sea", () -> none.best(0, 3), FAR_UNKNOWN);
        Check.refused(none, "drawn without a sea", () -> none.drawn(0, 0, false, -1, 3), UNKNOWN);
    }

    // ---- WAYS, promise 13

    /** "-100001: there is no WAY": behind what is UNKNOWN or OUTSIDE, of each call on its own. */
    private static void noWay() {
        IceForCoast ice = Check.at("0#0/#h#/000");
        ice.berg(0, 0, 100, 99, 0);
        ice.berg(0, 7, 100, 99, 0);
        Check.due("shut in: ways", ice.ways(0), 0);
        for (int what : new int[] {0, 1, 2, 3, 10, 18}) {
            Check.refused(ice, "shut in: tow, " + what, () -> ice.tow(0, 1, false, what), NO_WAY);
        }
        for (int what : new int[] {-1, 4, 9, 19}) {
            Check.refused(ice, "shut in: tow, " + what, () -> ice.tow(0, 1, false, what), FAR_OUTSIDE);
        }
        for (int tugs : new int[] {0, 12}) {
            Check.refused(ice, "shut in: tow by " + tugs, () -> ice.tow(0, tugs, true, 0), FAR_OUTSIDE);
            Check.refused(ice, "shut in: drawn by " + tugs, () -> ice.drawn(0, tugs, true, 0, 0), OUTSIDE);
        }
        for (int tugs : new int[] {1, 11}) {
            Check.refused(ice, "shut in: tow by " + tugs, () -> ice.tow(0, tugs, true, 0), NO_WAY);
            Check.refused(ice, "shut in: drawn by " + tugs, () -> ice.drawn(0, tugs, true, 0, 0), NONE);
        }
        for (int what = 0; what <= 2; what++) {
            int of = what;
            Check.refused(ice, "shut in: best, " + what, () -> ice.best(0, of), NO_WAY);
            Check.refused(ice, "shut in: drawn, " + what, () -> ice.drawn(0, 1, false, 0, of), NONE);
        }
        Check.refused(ice, "shut in: best, 3", () -> ice.best(0, 3), FAR_OUTSIDE);
        Check.refused(ice, "shut in: drawn, 3", () -> ice.drawn(0, 1, false, 0, 3), OUTSIDE);
        Check.refused(ice, "shut in: drawn from -1", () -> ice.drawn(0, 1, false, -1, 0), OUTSIDE);
        Check.due("the other one: ways", ice.ways(1), 1);
        Check.due("the other one: steps", ice.tow(1, 1, false, 3), 1);
    }

    /** "no LAND and nearer to the HARBOUR": one square of land more or less. */
    private static void oneWayMore() {
        String[] texts = {"000/000/00h", "0#0/000/00h", "0#0/0#0/00h", "0#0/##0/00h", "0#0/0#0/0#h", "000/#00/0#h"};
        int[] ways = {6, 3, 1, 0, 0, 2};
        for (int i = 0; i < texts.length; i++) {
            IceForCoast ice = Check.at(texts[i]);
            ice.berg(0, 0, 100, 99, 0);
            Check.due("ways of " + texts[i], ice.ways(0), ways[i]);
            Check.due("steps of " + texts[i], ice.tow(0, 1, false, 3), ways[i] == 0 ? NO_WAY : 4);
        }
        // Round the land there were a way, but it begins with a step that is no nearer.
        IceForCoast round = Check.at("0#h/000");
        round.berg(0, 0, 100, 99, 0);
        round.berg(0, 3, 100, 99, 0);
        Check.due("round the land", round.ways(0), 0);
        Check.due("from under it", round.ways(1), 1);
    }

    /** A row's last square is not beside the next row's first; nothing is above the first row or below the last. */
    private static void waysAtTheRim() {
        IceForCoast first = Check.at("00h/000");
        first.berg(0, 3, 100, 99, 0);
        Check.due("behind the harbour by number, ways", first.ways(0), 3);
        Check.due("behind the harbour by number, steps", first.tow(0, 1, false, 3), 3);
        IceForCoast last = Check.at("000/h00");
        last.berg(0, 2, 100, 99, 0);
        Check.due("ahead of the harbour by number, ways", last.ways(0), 3);
        IceForCoast shut = Check.at("0#h/0#0");
        shut.berg(0, 3, 100, 99, 0);
        Check.due("no way round the rim, west", shut.ways(0), 0);
        IceForCoast east = Check.at("0#0/h#0");
        east.berg(0, 2, 100, 99, 0);
        Check.due("no way round the rim, east", east.ways(0), 0);
        IceForCoast under = Check.at("h0/##/00");
        under.berg(0, 4, 100, 99, 0);
        Check.due("no way round the rim, south", under.ways(0), 0);
        IceForCoast above = Check.at("00/##/h0");
        above.berg(0, 0, 100, 99, 0);
        Check.due("no way round the rim, north", above.ways(0), 0);
    }

    private static void waysOfBergs() {
        IceForCoast ice = nineSteps();
        Check.due("ways of the farthest", ice.ways(0), 126);
        Check.refused(ice, "ways behind the last", () -> ice.ways(1), UNKNOWN);
        ice.berg(0, 29 - 1, 100, 99, 0);
        Check.due("ways of the nearest", ice.ways(1), 1);
        Check.refused(ice, "ways behind the last of two", () -> ice.ways(2), UNKNOWN);
        Check.refused(ice, "ways ahead of the first", () -> ice.ways(-1), UNKNOWN);
    }

    // ---- BEST WAY

    /**
     * Without wages, by the east (cold, against a current) in 3 days and by the south (warm) in 2:
     * of 67 both leave 64, of 68 the east leaves 65, the south 64.
     */
    private static void greatestGainAheadOfDays() {
        IceForCoast ice = Check.at("00n/3h");
        ice.coin(1, 0);
        ice.berg(0, 0, 67, 99, 0);
        Check.due("like gains: days", ice.tow(0, 11, false, 1), 2);
        Check.due("like gains: the south", ice.tow(0, 11, false, 10), 2);
        Check.due("like gains: gain", ice.tow(0, 11, false, 2), 3 * 64);
        ice.change(0, 2, 68);
        Check.due("one more: days", ice.tow(0, 11, false, 1), 3);
        Check.due("one more: the east", ice.tow(0, 11, false, 10), 1);
        Check.due("one more: gain", ice.tow(0, 11, false, 2), 3 * 65);
        // With a wage of 1 the third day of eleven tugs costs more than 1 of water is worth.
        ice.coin(1, 1);
        Check.due("wages: the south", ice.tow(0, 11, false, 10), 2);
        Check.due("wages: gain", ice.tow(0, 11, false, 2), 3 * 64 - 22);
        gainAndDaysByWages();
    }

    /** At 9 for each of water a day of eight tugs costs less than the one more, of nine as much, of ten more. */
    private static void gainAndDaysByWages() {
        IceForCoast ice = Check.at("00n/3h");
        ice.coin(0, 9);
        ice.berg(0, 0, 68, 99, 0);
        Check.due("by eight: the east", ice.tow(0, 8, false, 10), 1);
        Check.due("by eight: gain", ice.tow(0, 8, false, 2), 9 * 65 - 24);
        Check.due("by nine, alike: the south", ice.tow(0, 9, false, 10), 2);
        Check.due("by nine, alike: gain", ice.tow(0, 9, false, 2), 9 * 65 - 27);
        Check.due("by nine, alike: days", ice.tow(0, 9, false, 1), 2);
        Check.due("by ten: the south", ice.tow(0, 10, false, 10), 2);
        Check.due("by ten: gain", ice.tow(0, 10, false, 2), 9 * 64 - 20);
    }

    /** The way that is first by its steps has a day more, or just as many. */
    private static void fewestDaysAheadOfTheFirst() {
        IceForCoast longer = Check.at("00n/3h");
        longer.coin(1, 0);
        longer.berg(0, 0, 50, 99, 0);
        Check.due("the first is longer: water", longer.tow(0, 11, false, 0), 47);
        Check.due("the first is longer: days", longer.tow(0, 11, false, 1), 2);
        Check.due("the first is longer: the second", longer.tow(0, 11, false, 10), 2);
        IceForCoast like = Check.at("00/0h");
        like.coin(1, 0);
        like.berg(0, 0, 50, 99, 0);
        Check.due("like days: water", like.tow(0, 11, false, 0), 48);
        Check.due("like days: the first", like.tow(0, 11, false, 10), 1);
        IceForCoast shorter = Check.at("03/0wh");
        shorter.coin(1, 0);
        shorter.berg(0, 0, 50, 99, 0);
        Check.due("the first is shorter: days", shorter.tow(0, 11, false, 1), 2);
        Check.due("the first is shorter: it", shorter.tow(0, 11, false, 10), 1);
    }

    /** "then the first (n, e, s, w, by the first step, then the second and so on)" */
    private static void theFirstOfLikeOnes() {
        int[] from = {0, 2, 6, 8};
        int[] harbour = {8, 6, 2, 0};
        int[][] steps = {{1, 1, 2, 2}, {2, 2, 3, 3}, {0, 0, 1, 1}, {0, 0, 3, 3}};
        for (int i = 0; i < 4; i++) {
            StringBuilder text = new StringBuilder();
            for (int s = 0; s < 9; s++) {
                text.append(s > 0 && s % 3 == 0 ? "/" : "").append(s == harbour[i] ? "h" : "0");
            }
            IceForCoast ice = Check.at(text.toString());
            ice.berg(0, from[i], 100, 99, 0);
            for (int step = 0; step < 4; step++) {
                String told = "from " + from[i] + ": step " + step;
                Check.due(told, ice.tow(0, 1, false, 10 + step), steps[i][step]);
            }
        }
        // Warmth on the first of them: it is the second then, by its second step.
        IceForCoast second = Check.at("009/000/00h");
        second.berg(0, 0, 100, 99, 0);
        int[] way = {1, 2, 1, 2};
        for (int step = 0; step < 4; step++) {
            Check.due("the second of them: step " + step, second.tow(0, 1, false, 10 + step), way[step]);
        }
    }

    // ---- promise 14: best

    /** "of 1 to 11 TUGS": of 219 one day by eleven, two by ten; of 220 two by eleven. */
    private static void bestOfOneToEleven() {
        IceForCoast ice = Check.at("0h/##");
        ice.coin(0, 9);
        ice.berg(0, 0, 219, 99, 0);
        // Wage 1: 9 * 218 - 11 against 9 * 217 - 2 * 6, the fewest for two days.
        Check.due("eleven: tugs", ice.best(0, 0), 11);
        Check.due("eleven: gain", ice.best(0, 2), 9 * 218 - 11);
        ice.change(0, 2, 220);
        Check.due("no twelve: tugs", ice.best(0, 0), 6);
        Check.due("no twelve: gain", ice.best(0, 2), 9 * 218 - 12);
        ice.change(0, 2, 19);
        Check.due("one: tugs", ice.best(0, 0), 1);
        Check.due("one: gain", ice.best(0, 2), 9 * 18 - 1);
        ice.change(0, 2, 20);
        Check.due("two: tugs", ice.best(0, 0), 2);
        Check.due("two: gain", ice.best(0, 2), 9 * 19 - 2);
    }

    /** "of like ones fewest TUGS, then without": 274 by five in three days with a skirt, by eight in two without. */
    private static void fewestTugsAheadOfNoSkirt() {
        IceForCoast ice = Check.at("1h/##");
        ice.coin(0, 1);
        ice.coin(1, 2);
        ice.coin(2, 2);
        ice.berg(0, 0, 280, 99, 0);
        Check.due("by five with a skirt", ice.tow(0, 5, true, 2), 274 - 30 - 2);
        Check.due("by eight without", ice.tow(0, 8, false, 2), 274 - 32);
        Check.due("like: tugs", ice.best(0, 0), 5);
        Check.due("like: with", ice.best(0, 1), 1);
        Check.due("like: gain", ice.best(0, 2), 242);
        ice.coin(2, 3);
        Check.due("one more for cloth: tugs", ice.best(0, 0), 8);
        Check.due("one more for cloth: without", ice.best(0, 1), 0);
        Check.due("one more for cloth: gain", ice.best(0, 2), 242);
        ice.coin(2, 1);
        Check.due("one less for cloth: tugs", ice.best(0, 0), 5);
        Check.due("one less for cloth: gain", ice.best(0, 2), 243);
    }

    /** By as many tugs: a skirt that saves 3 of water at price 3, for 8, 9 and 10. */
    private static void withoutAheadOfWith() {
        IceForCoast ice = Check.at("9h/##");
        ice.berg(0, 0, 100, 99, 0);
        for (int cloth = 8; cloth <= 10; cloth++) {
            ice.coin(2, cloth);
            Check.due("cloth " + cloth + ": tugs", ice.best(0, 0), 6);
            Check.due("cloth " + cloth + ": skirt", ice.best(0, 1), cloth == 8 ? 1 : 0);
            Check.due("cloth " + cloth + ": gain", ice.best(0, 2), 270 - 6 + (cloth == 8 ? 1 : 0));
        }
        IceForCoast nothing = Check.at("0h/##");
        nothing.coin(2, 0);
        nothing.berg(0, 0, 15, 99, 0);
        Check.due("a skirt that saves nothing, for nothing", nothing.best(0, 1), 0);
    }

    /** BEST is what its words make of tow() by 1 to 11 tugs, without a skirt and with one, each in its turn. */
    private static void greatestOfAllTugs() {
        boolean[] seenWithout = new boolean[12];
        boolean[] seenWith = new boolean[12];
        for (int tugs = 1; tugs <= 11; tugs++) {
            for (int cloth : new int[] {0, 99}) {
                IceForCoast ice = Check.at("9h/##");
                ice.coin(0, 9);
                ice.coin(2, cloth);
                // One day by so many tugs, two by one fewer.
                ice.berg(0, 0, 20 * tugs - 1, 99, 0);
                int[] best = {0, 0, MIN};
                for (int by = 1; by <= 11; by++) {
                    for (int skirt = 0; skirt <= 1; skirt++) {
                        int gain = ice.tow(0, by, skirt == 1, 2);
                        best = gain > best[2] ? new int[] {by, skirt, gain} : best;
                    }
                }
                for (int what = 0; what <= 2; what++) {
                    String told = "best(0, " + what + ") of " + (20 * tugs - 1) + ", cloth " + cloth;
                    Check.due(told, ice.best(0, what), best[what]);
                }
                seenWithout[best[0]] |= best[1] == 0;
                seenWith[best[0]] |= best[1] == 1;
            }
            Check.holds("so many without a skirt: " + tugs, tugs > 6 || seenWithout[tugs]);
            Check.holds("so many with a skirt: " + tugs, tugs == 1 || seenWith[tugs]);
        }
    }

    private static void whatOfBest() {
        IceForCoast ice = nineSteps();
        for (int what : new int[] {MIN, -1, 3, 10, MAX}) {
            Check.refused(ice, "best(0, " + what + ")", () -> ice.best(0, what), FAR_OUTSIDE);
        }
        for (int berg : new int[] {MIN, -1, 1, 5, MAX}) {
            for (int what : new int[] {0, 2, 3, -1}) {
                Check.refused(ice, "best(" + berg + ", " + what + ")", () -> ice.best(berg, what), FAR_UNKNOWN);
            }
        }
        int tugs = ice.best(0, 0);
        boolean skirt = ice.best(0, 1) == 1;
        Check.due("best(0, 2) is what tow() tells of it", ice.best(0, 2), ice.tow(0, tugs, skirt, 2));
    }

    // ---- promise 17: drawn

    private static long next(long seed) {
        return (1103515245L * seed + 12345) % 2147483648L;
    }

    private static int draw(long seed) {
        return (int) (next(seed) / 65536 % 3);
    }

    /** Of 100 in warmth 5 a day leaves 95, 94 or 93 as the draw is 0, 1 or 2. */
    private static void drawsOfThree() {
        IceForCoast ice = Check.at("5h/##");
        ice.berg(0, 0, 100, 99, 0);
        boolean[] seen = new boolean[3];
        for (int seed = 0; seed < 40; seed++) {
            seen[draw(seed)] = true;
            Check.due("drawn from " + seed, ice.drawn(0, 11, false, seed, 0), 95 - draw(seed));
        }
        Check.holds("all three were drawn", seen[0] && seen[1] && seen[2]);
        // With a skirt 5, 6 and 7 are 4, 4 and 5.
        int[] withSkirt = {96, 96, 95};
        for (int seed = 0; seed < 20; seed++) {
            Check.due("with a skirt from " + seed, ice.drawn(0, 11, true, seed, 0), withSkirt[draw(seed)]);
        }
        // 12345 is below 65536: a draw of 0. The seeds are such that the next is just below and at 65536 times 1, 2, 3.
        for (int times = 1; times <= 4; times++) {
            for (long due : new long[] {65536L * times - 1, 65536L * times}) {
                int seed = before(due);
                Check.due("the seed behind " + seed, ice.drawn(0, 11, false, seed, 2), due);
                Check.due("drawn from " + seed, ice.drawn(0, 11, false, seed, 0), 95 - due / 65536 % 3);
            }
        }
    }

    /** The seed whose next one is told: a step of the row undone, by the inverse of its factor. */
    private static int before(long seed) {
        java.math.BigInteger whole = java.math.BigInteger.TWO.pow(31);
        java.math.BigInteger factor = java.math.BigInteger.valueOf(1103515245L).modInverse(whole);
        return java.math.BigInteger.valueOf(seed - 12345).multiply(factor).mod(whole).intValueExact();
    }

    /** "its rest by 2 to the 31": seeds whose next is the least and the greatest; the least and greatest seed. */
    private static void seedWrapsAround() {
        IceForCoast ice = Check.at("5h/##");
        ice.berg(0, 0, 100, 99, 0);
        Check.due("from 0", ice.drawn(0, 11, false, 0, 2), 12345);
        Check.due("from 1", ice.drawn(0, 11, false, 1, 2), 1103527590);
        Check.due("from 2: wrapped around", ice.drawn(0, 11, false, 2, 2), 2207042835L - 2147483648L);
        Check.due("from the greatest", ice.drawn(0, 11, false, MAX, 2), next(MAX));
        for (long due : new long[] {0, 1, MAX - 1, MAX}) {
            int seed = before(due);
            Check.due("the seed behind " + seed, ice.drawn(0, 11, false, seed, 2), due);
            Check.due("drawn from " + seed, ice.drawn(0, 11, false, seed, 0), 95 - due / 65536 % 3);
        }
    }

    /** "(0 at least)": of 200 a day in warmth -1 would leave 201; in 0 199, in 1 197, in 2 195. */
    private static void warmthDrawnIsZeroAtLeast() {
        int[][] water = {{199, 199, 197}, {199, 197, 195}};
        int[][] dirty = {{197, 197, 195}, {197, 195, 193}};
        for (int warmth = 0; warmth <= 1; warmth++) {
            IceForCoast ice = Check.at(warmth + "h/##");
            ice.berg(0, 0, 200, 99, 0);
            ice.berg(3, 0, 200, 99, 0);
            for (int seed = 0; seed < 20; seed++) {
                String told = "in warmth " + warmth + " from " + seed;
                Check.due(told, ice.drawn(0, 11, false, seed, 0), water[warmth][draw(seed)]);
                Check.due(told + ", dirty", ice.drawn(1, 11, false, seed, 0), dirty[warmth][draw(seed)]);
            }
        }
        // The warmest, and the foot that it takes: of 200 a day in 10 leaves 179; 9 is turned over by 9, 10 by 10.
        IceForCoast ice = Check.at("9h/##");
        for (int foot = 8; foot <= 11; foot++) {
            ice.berg(0, 0, 200, foot, 0);
        }
        for (int seed = 0; seed < 20; seed++) {
            int warmth = 8 + draw(seed);
            int left = 200 - 1 - 2 * warmth;
            for (int foot = 8; foot <= 11; foot++) {
                int want = foot <= warmth ? left - left / 5 : left;
                String told = "in warmth " + warmth + " on a foot of " + foot;
                Check.due(told, ice.drawn(foot - 8, 11, false, seed, 0), want);
            }
        }
    }

    /** Each day draws once, and no day is drawn behind its end: 10 gone in ten days of twelve. */
    private static void drawnUntilGone() {
        IceForCoast ice = Check.at("0w0w0w0w0w0n/#####h");
        ice.berg(0, 0, 10, 99, 0);
        ice.berg(0, 0, 13, 99, 0);
        // Below 100 a warmth of 1 melts no more than one of 0 does; draws of 0, 1 and 2 make it 0, 0 and 1.
        for (int seed = 0; seed < 20; seed++) {
            long[] behind = new long[13];
            behind[0] = seed;
            for (int i = 1; i <= 12; i++) {
                behind[i] = next(behind[i - 1]);
            }
            Check.due("gone: days", ice.drawn(0, 1, false, seed, 1), 10);
            Check.due("gone: water", ice.drawn(0, 1, false, seed, 0), 0);
            Check.due("gone: the seed", ice.drawn(0, 1, false, seed, 2), behind[10]);
            Check.due("one left: days", ice.drawn(1, 1, false, seed, 1), 12);
            Check.due("one left: water", ice.drawn(1, 1, false, seed, 0), 1);
            Check.due("one left: the seed", ice.drawn(1, 1, false, seed, 2), behind[12]);
        }
    }

    /** The way is the best one by WARMTH as it is, and its steps take days by SIZE as it was drawn. */
    private static void drawnDaysByCurrents() {
        IceForCoast ice = Check.at("00/1h");
        ice.berg(0, 0, 220, 99, 0);
        Check.due("the way", ice.tow(0, 11, false, 10), 1);
        for (int seed = 0; seed < 30; seed++) {
            // Two days in the first square: 219, 217 or 215 is below 220 then: one day in the second.
            long at = seed;
            int left = 220;
            for (int day = 0; day < 3; day++) {
                left -= 1 + Math.max(0, draw(at) - 1) * left / 100;
                at = next(at);
            }
            Check.due("drawn: days from " + seed, ice.drawn(0, 11, false, seed, 1), 3);
            Check.due("drawn: water from " + seed, ice.drawn(0, 11, false, seed, 0), left);
            Check.due("drawn: seed from " + seed, ice.drawn(0, 11, false, seed, 2), at);
        }
        lastDayByADraw();
    }

    /** 24 by one tug: two days, which leave 20 for two more or, if the first is of warmth 9, 19 for one. */
    private static void lastDayByADraw() {
        IceForCoast ice = Check.at("80h/###");
        ice.berg(0, 0, 24, 99, 0);
        boolean three = false;
        boolean four = false;
        for (int seed = 0; seed < 30; seed++) {
            boolean warm = draw(seed) == 2;
            three |= warm;
            four |= !warm;
            Check.due("drawn: days of 24 from " + seed, ice.drawn(0, 1, false, seed, 1), warm ? 3 : 4);
        }
        Check.holds("both were drawn", three && four);
        Check.due("tow: days of 24", ice.tow(0, 1, false, 1), 4);
    }

    /** "UNKNOWN; OUTSIDE: tugs, seed (0 at least), what; NONE: there is no WAY" */
    private static void refusedDraws() {
        IceForCoast ice = Check.at("5h/##");
        ice.berg(0, 0, 100, 99, 0);
        for (int seed : new int[] {MIN, -2, -1}) {
            Check.refused(ice, "drawn from " + seed, () -> ice.drawn(0, 11, false, seed, 2), OUTSIDE);
        }
        for (int what : new int[] {MIN, -1, 3, MAX}) {
            Check.refused(ice, "drawn, what " + what, () -> ice.drawn(0, 11, false, 0, what), OUTSIDE);
        }
        for (int berg : new int[] {MIN, -1, 1, 5, MAX}) {
            Check.refused(ice, "drawn of " + berg, () -> ice.drawn(berg, 11, false, 0, 2), UNKNOWN);
            Check.refused(ice, "drawn of " + berg + " by 0", () -> ice.drawn(berg, 0, false, 0, 2), UNKNOWN);
            Check.refused(ice, "drawn of " + berg + " from -1", () -> ice.drawn(berg, 1, false, -1, 2), UNKNOWN);
            Check.refused(ice, "drawn of " + berg + ", what 3", () -> ice.drawn(berg, 1, false, 0, 3), UNKNOWN);
        }
        Check.due("drawn, what 0", ice.drawn(0, 11, false, 0, 0), 95);
        Check.due("drawn, what 2", ice.drawn(0, 11, false, 0, 2), 12345);
        Check.due("the berg's size stays", ice.about(0, 2), 100);
        Check.due("the berg's foot stays", ice.about(0, 3), 99);
    }
}
