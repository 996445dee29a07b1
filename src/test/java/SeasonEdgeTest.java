/**
 * The edges of promises 15, 16 and 18, and of what "Terms" tells of SEASON, ONE MORE and CAME: of
 * each sentence that names a boundary the call just inside and the call just outside it, and that
 * refusals change nothing.
 */
public final class SeasonEdgeTest {
    private static final int NONE = -1;
    private static final int UNKNOWN = -101;
    private static final int OUTSIDE = -102;
    private static final int STATE = -103;
    private static final int MIN = Integer.MIN_VALUE;
    private static final int MAX = Integer.MAX_VALUE;

    public static void main(String[] args) {
        seasonsOfFive();
        tugsOfTheSoManieth();
        elevenForOne();
        fewestToTheFirst();
        noneForALoss();
        noneWithoutAWay();
        skirtsInASeason();
        seasonOfNoBergs();
        withoutASea();
        refusedSeasons();
        refusedMore();
        sizesOfAll();
        leastAndGreatest();
        noneCame();
        waterOfTheGone();
        refusedCame();
        twentyTimes();
        refusalsDoNotCount();
        sizeAndFootStay();
        Check.end();
    }

    // ---- promises 15 and 16: season, more

    /** Five bergs for each of which one tug gains 3 * 14 - 1, and a second nothing. */
    private static IceForCoast five() {
        IceForCoast ice = Check.at("0h/##");
        for (int i = 0; i < 5; i++) {
            ice.berg(0, 0, 15, 99, 0);
        }
        return ice;
    }

    /** "so many TUGS (1 to 11) at most", "what SEASON of k and 1 is above that of k" */
    private static void seasonsOfFive() {
        IceForCoast ice = five();
        for (int tugs = 1; tugs <= 11; tugs++) {
            Check.due("season(" + tugs + ", 0)", ice.season(tugs, 0), 41 * Math.min(tugs, 5));
            for (int berg = 1; berg <= 5; berg++) {
                int want = berg > 5 - tugs ? 1 : 0;
                Check.due("season(" + tugs + ", " + berg + ")", ice.season(tugs, berg), want);
            }
        }
        for (int tugs = 1; tugs <= 10; tugs++) {
            Check.due("more(" + tugs + ")", ice.more(tugs), tugs < 5 ? 41 : 0);
        }
    }

    /** "1 to 5 TUGS of the so-manieth BERG (NONE: there is none)" */
    private static void tugsOfTheSoManieth() {
        IceForCoast ice = Check.at("0h/##");
        for (int many = 0; many <= 5; many++) {
            for (int what = 1; what <= 5; what++) {
                String told = "of " + many + " bergs the " + what + ".";
                Check.due(told, ice.season(11, what), what <= many ? 1 : NONE);
            }
            if (many < 5) {
                ice.berg(0, 0, 15, 99, 0);
            }
        }
    }

    /** Price 9: of 219 by 11 in one day 1951, by 6 in two 1941, by 4 in three 1932, by 3 in four 1923. */
    private static void elevenForOne() {
        IceForCoast ice = Check.at("0h/##");
        ice.coin(0, 9);
        ice.berg(0, 0, 219, 99, 0);
        Check.due("eleven: gain", ice.season(11, 0), 1951);
        Check.due("eleven: tugs", ice.season(11, 1), 11);
        Check.due("ten: gain", ice.season(10, 0), 1941);
        Check.due("ten: tugs", ice.season(10, 1), 6);
        Check.due("six: tugs", ice.season(6, 1), 6);
        Check.due("five: gain", ice.season(5, 0), 1932);
        Check.due("five: tugs", ice.season(5, 1), 4);
        Check.due("the eleventh", ice.more(10), 10);
        Check.due("the tenth", ice.more(9), 0);
        Check.due("the sixth", ice.more(5), 9);
        ice.change(0, 2, 220);
        Check.due("220, eleven: tugs", ice.season(11, 1), 6);
        Check.due("220: the eleventh", ice.more(10), 0);
    }

    /** "of like ones fewest to the first BERG, then to the second and so on" */
    private static void fewestToTheFirst() {
        IceForCoast ice = Check.at("0h/##");
        ice.coin(0, 9);
        ice.berg(0, 0, 219, 99, 0);
        ice.berg(0, 0, 219, 99, 0);
        // 4 and 6 are as good as 6 and 4; of nine 3 and 6 as 4 and 4; of eight 4 and 4 alone.
        int[][] dealt = {{11, 3873, 4, 6}, {10, 3873, 4, 6}, {9, 3864, 3, 6}, {8, 3864, 4, 4}};
        for (int[] one : dealt) {
            Check.due("season(" + one[0] + ", 0)", ice.season(one[0], 0), one[1]);
            Check.due("season(" + one[0] + ", 1)", ice.season(one[0], 1), one[2]);
            Check.due("season(" + one[0] + ", 2)", ice.season(one[0], 2), one[3]);
        }
        Check.due("more(10)", ice.more(10), 0);
        Check.due("more(9)", ice.more(9), 9);
        Check.due("more(8)", ice.more(8), 0);
        // One tug for two like bergs is the second's; for a first that is worth one more it is the first's.
        IceForCoast two = Check.at("0h/##");
        two.berg(0, 0, 15, 99, 0);
        two.berg(0, 0, 15, 99, 0);
        two.berg(0, 0, 15, 99, 0);
        Check.due("like: the first", two.season(1, 1), 0);
        Check.due("like: the second", two.season(1, 2), 0);
        Check.due("like: the third", two.season(1, 3), 1);
        two.change(1, 2, 16);
        Check.due("one more: the second", two.season(1, 2), 1);
        Check.due("one more: the third", two.season(1, 3), 0);
        two.change(0, 2, 16);
        Check.due("the first alike: the first", two.season(1, 1), 0);
        Check.due("the first alike: the second", two.season(1, 2), 1);
    }

    /** "(0 to a BERG: GAIN 0": a gain of -1, of 0 and of 1 by one tug. */
    private static void noneForALoss() {
        IceForCoast ice = Check.at("0h/##");
        ice.coin(0, 1);
        ice.coin(1, 9);
        ice.berg(0, 0, 10, 0, 0);
        ice.berg(0, 0, 10, 99, 0);
        ice.berg(0, 0, 11, 99, 0);
        Check.due("a loss", ice.best(0, 2), -1);
        Check.due("for a loss none", ice.season(11, 1), 0);
        Check.due("nothing", ice.best(1, 2), 0);
        Check.due("for nothing none", ice.season(11, 2), 0);
        Check.due("a gain", ice.best(2, 2), 1);
        Check.due("for a gain one", ice.season(11, 3), 1);
        Check.due("its gain alone", ice.season(11, 0), 1);
        Check.due("its gain by one", ice.season(1, 0), 1);
        ice.change(2, 2, 10);
        Check.due("nothing by all", ice.season(11, 0), 0);
        Check.due("none for it", ice.season(11, 3), 0);
    }

    /** "to one without a WAY 0 alone" */
    private static void noneWithoutAWay() {
        IceForCoast ice = Check.at("0#h/0#0");
        ice.berg(0, 0, 999, 99, 0);
        Check.due("shut in alone: gain", ice.season(11, 0), 0);
        Check.due("shut in alone: tugs", ice.season(11, 1), 0);
        Check.due("shut in alone: more", ice.more(10), 0);
        ice.berg(0, 5, 15, 99, 0);
        ice.berg(0, 3, 999, 99, 0);
        Check.due("beside one with a way: gain", ice.season(11, 0), 41);
        Check.due("beside one with a way: the first", ice.season(11, 1), 0);
        Check.due("beside one with a way: it", ice.season(11, 2), 1);
        Check.due("beside one with a way: the third", ice.season(11, 3), 0);
        Check.due("beside one with a way: no fourth", ice.season(11, 4), NONE);
    }

    /** "with or without SKIRTS": one that saves 3 of water at price 3, for 8, 9 and 10. */
    private static void skirtsInASeason() {
        IceForCoast ice = Check.at("9h/##");
        ice.berg(0, 0, 100, 99, 0);
        for (int cloth = 8; cloth <= 10; cloth++) {
            ice.coin(2, cloth);
            Check.due("cloth " + cloth, ice.season(6, 0), 270 - 6 + (cloth == 8 ? 1 : 0));
            Check.due("cloth " + cloth + ": tugs", ice.season(6, 1), 6);
        }
    }

    private static void seasonOfNoBergs() {
        IceForCoast ice = Check.at("0h/##");
        for (int tugs = 1; tugs <= 11; tugs++) {
            Check.due("no bergs: season(" + tugs + ", 0)", ice.season(tugs, 0), 0);
            Check.due("no bergs: season(" + tugs + ", 1)", ice.season(tugs, 1), NONE);
        }
        Check.due("no bergs: more(1)", ice.more(1), 0);
    }

    /** "STATE: no SEA; OUTSIDE: tugs, what": STATE is told first. */
    private static void withoutASea() {
        IceForCoast ice = new IceForCoast();
        for (int tugs : new int[] {0, 1, 10, 11, 12}) {
            Check.refused(ice, "season(" + tugs + ", 0) without a sea", () -> ice.season(tugs, 0), STATE);
            Check.refused(ice, "season(" + tugs + ", 6) without a sea", () -> ice.season(tugs, 6), STATE);
            Check.refused(ice, "more(" + tugs + ") without a sea", () -> ice.more(tugs), STATE);
        }
        Check.write(ice, "0h/##");
        Check.due("not read yet", ice.season(1, 0), STATE);
        ice.sea();
        Check.due("read", ice.season(1, 0), 0);
        Check.due("read, outside", ice.season(0, 0), OUTSIDE);
        Check.due("read, more outside", ice.more(0), OUTSIDE);
    }

    private static void refusedSeasons() {
        IceForCoast ice = five();
        for (int tugs : new int[] {MIN, -1, 0, 12, MAX}) {
            for (int what : new int[] {0, 5, 6}) {
                Check.refused(ice, "season(" + tugs + ", " + what + ")", () -> ice.season(tugs, what), OUTSIDE);
            }
        }
        for (int what : new int[] {MIN, -1, 6, MAX}) {
            for (int tugs : new int[] {1, 11}) {
                Check.refused(ice, "season(" + tugs + ", " + what + ")", () -> ice.season(tugs, what), OUTSIDE);
            }
        }
        Check.due("season(1, 5)", ice.season(1, 5), 1);
        Check.due("season(11, 5)", ice.season(11, 5), 1);
    }

    /** "OUTSIDE: tugs (1 to 10)" */
    private static void refusedMore() {
        IceForCoast ice = five();
        for (int tugs : new int[] {MIN, -1, 0, 11, 12, MAX}) {
            Check.refused(ice, "more(" + tugs + ")", () -> ice.more(tugs), OUTSIDE);
        }
        Check.due("more(1)", ice.more(1), 41);
        Check.due("more(10)", ice.more(10), 0);
    }

    // ---- promise 18: came

    /** "of all SIZES (10 to 999)": the water of each of both, and the next that none leaves. */
    private static void sizesOfAll() {
        IceForCoast ice = Check.at("0h/##");
        ice.berg(0, 0, 500, 99, 0);
        int[] waters = {8, 9, 10, 993, 994, 995};
        int[] sizes = {NONE, 10, 11, 998, 999, NONE};
        for (int i = 0; i < waters.length; i++) {
            String told = "by eleven tugs " + waters[i];
            Check.due(told + ": how many", ice.came(0, 11, false, waters[i], 0), sizes[i] == NONE ? 0 : 1);
            Check.due(told + ": the least", ice.came(0, 11, false, waters[i], 1), sizes[i]);
            Check.due(told + ": the greatest", ice.came(0, 11, false, waters[i], 2), sizes[i]);
        }
    }

    /** 219 in one day and 220 in two are 218; of 217 and 219 one alone. */
    private static void leastAndGreatest() {
        IceForCoast ice = Check.at("0h/##");
        ice.berg(0, 0, 500, 99, 0);
        int[][] told = {{217, 1, 218, 218}, {218, 2, 219, 220}, {219, 1, 221, 221}, {437, 2, 439, 440}};
        for (int[] one : told) {
            for (int what = 0; what <= 2; what++) {
                String call = "came of " + one[0] + ", " + what;
                Check.due(call, ice.came(0, 11, false, one[0], what), one[1 + what]);
            }
        }
        // A skirt changes nothing where 1 melts, and one tug takes more days: 10 to 19 in one, 20 and 21 in two.
        Check.due("with a skirt", ice.came(0, 11, true, 218, 0), 2);
        Check.due("by one tug: the least", ice.came(0, 1, false, 18, 1), 19);
        Check.due("by one tug: the greatest", ice.came(0, 1, false, 18, 2), 20);
    }

    /** "1 the least, 2 the greatest (NONE)" */
    private static void noneCame() {
        IceForCoast ice = Check.at("0h/##");
        ice.berg(0, 0, 500, 99, 0);
        for (int water : new int[] {0, 8, 995, 999}) {
            Check.due("none of " + water + ": how many", ice.came(0, 11, false, water, 0), 0);
            Check.due("none of " + water + ": the least", ice.came(0, 11, false, water, 1), NONE);
            Check.due("none of " + water + ": the greatest", ice.came(0, 11, false, water, 2), NONE);
        }
        Check.due("all of these count", ice.count(8), 12);
    }

    /** Ten days and more: 10 alone is gone then, 11 leaves 1. */
    private static void waterOfTheGone() {
        IceForCoast ice = Check.at("0w0w0w0w0wh/######");
        ice.berg(0, 0, 500, 99, 0);
        Check.due("gone: how many", ice.came(0, 11, false, 0, 0), 1);
        Check.due("gone: the size", ice.came(0, 11, false, 0, 2), 10);
        Check.due("one left: the size", ice.came(0, 11, false, 1, 1), 11);
        IceForCoast less = Check.at("0w0w0w0w0h/######");
        less.berg(0, 0, 500, 99, 0);
        Check.due("nine days: none is gone", less.came(0, 11, false, 0, 0), 0);
        Check.due("nine days: one left", less.came(0, 11, false, 1, 2), 10);
    }

    /** "UNKNOWN; OUTSIDE: tugs, water (0 to 999), what; STATE: there is no WAY" */
    private static void refusedCame() {
        IceForCoast ice = Check.at("0#h/0#0");
        ice.berg(0, 0, 500, 99, 0);
        ice.berg(0, 5, 500, 99, 0);
        for (int berg : new int[] {MIN, -1, 2, 5, MAX}) {
            Check.refused(ice, "came of " + berg, () -> ice.came(berg, 11, false, 9, 0), UNKNOWN);
            Check.refused(ice, "came of " + berg + " by 0", () -> ice.came(berg, 0, false, -1, 3), UNKNOWN);
        }
        for (int berg = 0; berg <= 1; berg++) {
            int of = berg;
            for (int tugs : new int[] {MIN, 0, 12, MAX}) {
                Check.refused(ice, "came by " + tugs, () -> ice.came(of, tugs, false, 9, 0), OUTSIDE);
            }
            for (int water : new int[] {MIN, -1, 1000, MAX}) {
                Check.refused(ice, "came, water " + water, () -> ice.came(of, 11, false, water, 0), OUTSIDE);
            }
            for (int what : new int[] {MIN, -1, 3, MAX}) {
                Check.refused(ice, "came, what " + what, () -> ice.came(of, 11, false, 9, what), OUTSIDE);
            }
        }
        for (int what = 0; what <= 2; what++) {
            int of = what;
            Check.refused(ice, "came without a way", () -> ice.came(0, 11, false, 9, of), STATE);
        }
        Check.due("none was done", ice.count(8), 0);
        Check.due("came by 1", ice.came(1, 1, false, 9, 0), 1);
        Check.due("came by 11", ice.came(1, 11, true, 9, 0), 1);
        Check.due("came, water 0", ice.came(1, 11, false, 0, 0), 0);
        Check.due("came, water 999", ice.came(1, 11, false, 999, 2), NONE);
        Check.due("four were done", ice.count(8), 4);
    }

    /** "came() was done 20 times ever": over bergs, images and seas. */
    private static void twentyTimes() {
        IceForCoast ice = Check.at("0h/##");
        ice.berg(0, 0, 500, 99, 0);
        ice.image();
        for (int i = 1; i <= 10; i++) {
            Check.due("came " + i, ice.came(0, 11, false, 9, 1), 10);
            Check.due("so often", ice.count(8), i);
        }
        Check.due("restore()", ice.restore(), 1);
        Check.due("restore() leaves it", ice.count(8), 10);
        Check.write(ice, "0h/##");
        ice.sea();
        ice.berg(0, 0, 500, 99, 0);
        Check.due("another sea leaves it", ice.count(8), 10);
        for (int i = 11; i <= 20; i++) {
            Check.due("came " + i, ice.came(0, 11, false, 8, 1), NONE);
            Check.due("so often", ice.count(8), i);
        }
        for (int what = 0; what <= 2; what++) {
            int of = what;
            Check.refused(ice, "a 21st time", () -> ice.came(0, 11, false, 9, of), STATE);
        }
        Check.refused(ice, "a 21st time, unknown", () -> ice.came(1, 11, false, 9, 0), UNKNOWN);
        Check.refused(ice, "a 21st time, outside", () -> ice.came(0, 12, false, 9, 0), OUTSIDE);
        Check.due("twenty", ice.count(8), 20);
        Check.write(ice, "0h/##");
        ice.sea();
        ice.berg(0, 0, 500, 99, 0);
        Check.refused(ice, "in a third sea", () -> ice.came(0, 11, false, 9, 0), STATE);
        Check.due("the tow is told still", ice.tow(0, 11, false, 0), 497);
    }

    /** "(refusals do not count, all else does)" */
    private static void refusalsDoNotCount() {
        IceForCoast ice = Check.at("0#h/0#0");
        ice.berg(0, 0, 500, 99, 0);
        ice.berg(0, 5, 500, 99, 0);
        for (int i = 1; i <= 20; i++) {
            Check.due("refused: unknown", ice.came(2, 11, false, 9, 0), UNKNOWN);
            Check.due("refused: outside", ice.came(1, 11, false, 1000, 0), OUTSIDE);
            Check.due("refused: no way", ice.came(0, 11, false, 9, 0), STATE);
            Check.due("so often before", ice.count(8), i - 1);
            Check.due("not refused", ice.came(1, 11, false, 9, 0), 1);
        }
        Check.due("refused now", ice.came(1, 11, false, 9, 0), STATE);
    }

    private static void sizeAndFootStay() {
        IceForCoast ice = Check.at("1h/11");
        ice.berg(2, 0, 500, 5, 3);
        long before = ice.season(11, 0);
        ice.came(0, 3, true, 300, 0);
        Check.due("size", ice.about(0, 2), 500);
        Check.due("foot", ice.about(0, 3), 5);
        Check.due("season", ice.season(11, 0), before);
    }
}
