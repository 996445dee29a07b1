/** Promises 14, 15, 16 and 18: the best tugs, a season of them, one more, what size it was. */
public final class SeasonTest {
    private static final int NONE = -1;
    private static final int UNKNOWN = -101;
    private static final int OUTSIDE = -102;
    private static final int STATE = -103;
    private static final int NO_WAY = -100001;
    private static final int FAR_UNKNOWN = -100101;
    private static final int FAR_OUTSIDE = -100102;

    public static void main(String[] args) {
        best();
        likeBest();
        refusedBest();
        season();
        seasonWithSkirts();
        likeSeasons();
        seasonWithoutGain();
        refusedSeasons();
        more();
        came();
        cameTwentyTimes();
        refusedCame();
        Check.end();
    }

    private static void best() {
        IceForCoast ice = Check.at("1h/00");
        ice.berg(0, 0, 100, 50, 0);
        // Six tugs need one day, five need two: 3 * 98 - 6 against 3 * 97 - 10.
        Check.due("best: tugs", ice.best(0, 0), 6);
        Check.due("best: skirt", ice.best(0, 1), 0);
        Check.due("best: gain", ice.best(0, 2), 288);
        ice.coin(1, 9);
        // 279 - 54 by one, 288 - 54 by two in three days, 291 - 54 by three in two, 294 - 54 by six.
        Check.due("dear tugs: tugs", ice.best(0, 0), 6);
        Check.due("dear tugs: gain", ice.best(0, 2), 240);
        ice.coin(0, 1);
        ice.change(0, 2, 30);
        // 28 - 18 by one in two days, 29 - 18 by two in one.
        Check.due("cheap water: tugs", ice.best(0, 0), 2);
        Check.due("cheap water: gain", ice.best(0, 2), 11);
        ice.change(0, 2, 19);
        Check.due("little water: tugs", ice.best(0, 0), 1);
        Check.due("little water: gain", ice.best(0, 2), 9);
        ice.change(0, 3, 0);
        ice.change(0, 2, 10);
        // 9, over: 8.
        Check.due("a gain below 0", ice.best(0, 2), 8 - 9);
        Check.due("a gain below 0: tugs", ice.best(0, 0), 1);
    }

    private static void likeBest() {
        IceForCoast ice = Check.at("0h/00");
        ice.coin(1, 0);
        ice.coin(2, 0);
        ice.berg(0, 0, 19, 50, 0);
        // For nothing all tugs with and without a skirt gain alike.
        Check.due("like: fewest tugs", ice.best(0, 0), 1);
        Check.due("like: without", ice.best(0, 1), 0);
        Check.due("like: gain", ice.best(0, 2), 54);
        IceForCoast warm = Check.at("9h/00");
        warm.coin(2, 0);
        warm.berg(0, 0, 100, 99, 0);
        Check.due("a skirt for nothing", warm.best(0, 1), 1);
        // One day of six tugs: 1 + 9 melt, a third of it less.
        Check.due("a skirt for nothing: gain", warm.best(0, 2), 3 * 93 - 6);
        warm.coin(2, 9);
        Check.due("a skirt for what it saves", warm.best(0, 1), 0);
        Check.due("a skirt for what it saves: gain", warm.best(0, 2), 3 * 90 - 6);
        warm.coin(2, 8);
        Check.due("a skirt for one less", warm.best(0, 1), 1);
    }

    private static void refusedBest() {
        IceForCoast ice = Check.at("1#h/1##");
        ice.berg(0, 0, 100, 50, 0);
        Check.due("best: no way", ice.best(0, 0), NO_WAY);
        Check.due("best: no way, outside first", ice.best(0, 3), FAR_OUTSIDE);
        Check.due("best(0, -1)", ice.best(0, -1), FAR_OUTSIDE);
        Check.due("best(1, 0)", ice.best(1, 0), FAR_UNKNOWN);
        Check.due("best(-1, 9)", ice.best(-1, 9), FAR_UNKNOWN);
        Check.due("best without a sea", new IceForCoast().best(0, 0), FAR_UNKNOWN);
    }

    private static void season() {
        IceForCoast ice = Check.at("1h/00");
        Check.due("no bergs: gain", ice.season(1, 0), 0);
        Check.due("no bergs: tugs of the first", ice.season(1, 1), NONE);
        ice.berg(0, 0, 100, 50, 0);
        ice.berg(0, 3, 59, 50, 0);
        // Of the first 1: 273, 2: 279, 3: 285, 6: 288; of the second 1: 165 (56 in 3), 2: 167 (57 in 2), 3: 171 (58 in 1).
        Check.due("tow of the second by one", ice.tow(1, 1, false, 2), 165);
        Check.due("season(1)", ice.season(1, 0), 3 * 93 - 6);
        Check.due("season(1): the first", ice.season(1, 1), 1);
        Check.due("season(1): the second", ice.season(1, 2), 0);
        Check.due("season(2)", ice.season(2, 0), 273 + 165);
        Check.due("season(11)", ice.season(11, 0), 288 + 171);
        Check.due("season(11): the first", ice.season(11, 1), 6);
        Check.due("season(11): the second, no more than it takes", ice.season(11, 2), 3);
        Check.due("season(11): no third", ice.season(11, 3), NONE);
        Check.due("season(11): no fifth", ice.season(11, 5), NONE);
        ice.coin(1, 0);
        Check.due("free tugs: gain", ice.season(11, 0), 3 * 98 + 3 * 58);
        Check.due("free tugs: but the fewest", ice.season(11, 1), 6);
        ice.change(0, 2, 10);
        Check.due("a smaller berg: fewer tugs", ice.season(11, 1), 1);
        ice.berg(0, 3, 59, 50, 0);
        Check.due("a third berg", ice.season(11, 3), 3);
    }

    private static void seasonWithSkirts() {
        IceForCoast ice = Check.at("9h/00");
        ice.coin(2, 1);
        ice.berg(0, 0, 100, 99, 0);
        ice.berg(0, 3, 15, 99, 0);
        // By six tugs one day: 10 melt, 7 with a skirt: 279 - 6 - 1; the second needs none: 14 of 15.
        Check.due("skirts: season(7)", ice.season(7, 0), 272 + 41);
        Check.due("skirts: best", ice.best(0, 1), 1);
        Check.due("skirts: the first", ice.season(7, 1), 6);
        Check.due("skirts: the second", ice.season(7, 2), 1);
        ice.coin(2, 99);
        Check.due("no skirts: season(7)", ice.season(7, 0), 264 + 41);
    }

    private static void likeSeasons() {
        IceForCoast ice = Check.at("0h/00");
        for (int i = 0; i < 3; i++) {
            ice.berg(0, 0, 15, 50, 0);
        }
        // One tug a berg is all that helps: of two tugs the first berg gets none.
        Check.due("like: gain", ice.season(2, 0), 2 * (3 * 14 - 1));
        Check.due("like: the first", ice.season(2, 1), 0);
        Check.due("like: the second", ice.season(2, 2), 1);
        Check.due("like: the third", ice.season(2, 3), 1);
        Check.due("like, one: the third", ice.season(1, 3), 1);
        Check.due("like, one: the second", ice.season(1, 2), 0);
        Check.due("like, eleven: one each", ice.season(11, 1), 1);
    }

    private static void seasonWithoutGain() {
        IceForCoast ice = Check.at("900000/00000h");
        ice.coin(0, 1);
        ice.coin(1, 9);
        ice.berg(0, 0, 10, 0, 0);
        Check.holds("a tow at a loss", ice.tow(0, 1, false, 2) < 0);
        Check.due("no tug for a loss", ice.season(11, 1), 0);
        Check.due("no gain without a tug", ice.season(11, 0), 0);
        IceForCoast shut = Check.at("1#h/1#1");
        shut.berg(0, 0, 100, 50, 0);
        shut.berg(0, 5, 15, 50, 0);
        Check.due("no tug without a way", shut.season(11, 1), 0);
        Check.due("one for the other", shut.season(11, 2), 1);
        Check.due("its gain", shut.season(11, 0), 3 * 14 - 1);
    }

    private static void refusedSeasons() {
        IceForCoast none = new IceForCoast();
        Check.due("season without a sea", none.season(1, 0), STATE);
        Check.due("season without a sea, outside", none.season(0, 9), STATE);
        Check.due("more without a sea", none.more(1), STATE);
        Check.due("more without a sea, outside", none.more(11), STATE);
        IceForCoast ice = Check.at("1h/00");
        Check.due("season(0, 0)", ice.season(0, 0), OUTSIDE);
        Check.due("season(12, 0)", ice.season(12, 0), OUTSIDE);
        Check.due("season(1, 6)", ice.season(1, 6), OUTSIDE);
        Check.due("season(1, -1)", ice.season(1, -1), OUTSIDE);
        Check.due("season(11, 5)", ice.season(11, 5), NONE);
        Check.due("more(0)", ice.more(0), OUTSIDE);
        Check.due("more(11)", ice.more(11), OUTSIDE);
        Check.due("more(10)", ice.more(10), 0);
    }

    private static void more() {
        IceForCoast ice = Check.at("1h/00");
        ice.berg(0, 0, 100, 50, 0);
        ice.berg(0, 3, 59, 50, 0);
        for (int tugs = 1; tugs <= 10; tugs++) {
            int above = ice.season(tugs + 1, 0) - ice.season(tugs, 0);
            Check.due("more(" + tugs + ")", ice.more(tugs), above);
        }
        Check.due("the second tug is for the second berg", ice.more(1), 165);
        Check.due("the eleventh is for nothing", ice.more(10), 0);
        Check.due("there is no twelfth", ice.more(11), OUTSIDE);
    }

    private static void came() {
        IceForCoast ice = Check.at("0h/00");
        ice.berg(0, 0, 100, 50, 0);
        // One day while size is below 220, two from there on: 218 is of 219 and of 220.
        Check.due("came: one", ice.came(0, 11, false, 100, 0), 1);
        Check.due("came: its size", ice.came(0, 11, false, 100, 1), 101);
        Check.due("came: two", ice.came(0, 11, false, 218, 0), 2);
        Check.due("came: the least", ice.came(0, 11, false, 218, 1), 219);
        Check.due("came: the greatest", ice.came(0, 11, false, 218, 2), 220);
        Check.due("came: the least size of all", ice.came(0, 11, false, 9, 1), 10);
        Check.due("came: too little water", ice.came(0, 11, false, 8, 0), 0);
        Check.due("came: no least", ice.came(0, 11, false, 8, 1), NONE);
        Check.due("came: no greatest", ice.came(0, 11, false, 999, 2), NONE);
        Check.due("came: the greatest size of all", ice.came(0, 11, false, 994, 2), 999);
        Check.due("came: size stays", ice.about(0, 2), 100);
        Check.due("came: ten times", ice.count(8), 10);
        ice.berg(0, 0, 100, 0, 0);
        // On a foot of 0: 219 is 218, over 175; 220 is 219, over 176, 175; 221 is 220, over 176, 175.
        Check.due("came: over, the least", ice.came(1, 11, false, 175, 1), 219);
        Check.due("came: over, the greatest", ice.came(1, 11, false, 175, 2), 221);
    }

    private static void cameTwentyTimes() {
        IceForCoast ice = Check.at("0h/00");
        ice.berg(0, 0, 100, 50, 0);
        ice.image();
        for (int i = 1; i <= 20; i++) {
            Check.due("refused: does not count", ice.came(0, 12, false, 0, 0), OUTSIDE);
            Check.due("came: none of water 0, but it counts", ice.came(0, 11, false, 0, 1), NONE);
            Check.due("came() was done", ice.count(8), i);
            if (i % 5 == 0) {
                ice.restore();
            }
        }
        Check.due("came: a 21st time", ice.came(0, 11, false, 0, 1), STATE);
        Check.due("came: a 21st time, outside first", ice.came(0, 11, false, 0, 3), OUTSIDE);
        Check.due("came: a 21st time, unknown first", ice.came(1, 11, false, 0, 3), UNKNOWN);
        Check.write(ice, "0h/00");
        ice.sea();
        ice.berg(0, 0, 100, 50, 0);
        Check.due("came: ever, in another sea, too", ice.came(0, 11, false, 0, 1), STATE);
        Check.due("came: twenty", ice.count(8), 20);
    }

    private static void refusedCame() {
        IceForCoast ice = Check.at("1#h/1##");
        ice.berg(0, 0, 100, 50, 0);
        Check.due("came: no way", ice.came(0, 1, false, 0, 0), STATE);
        Check.due("came: no way, outside first", ice.came(0, 0, false, 0, 0), OUTSIDE);
        Check.due("came(1, ..)", ice.came(1, 0, false, -1, 9), UNKNOWN);
        Check.due("came(-1, ..)", ice.came(-1, 1, false, 0, 0), UNKNOWN);
        Check.due("came by 12", ice.came(0, 12, false, 0, 0), OUTSIDE);
        Check.due("came: water -1", ice.came(0, 1, false, -1, 0), OUTSIDE);
        Check.due("came: water 1000", ice.came(0, 1, false, 1000, 0), OUTSIDE);
        Check.due("came: what -1", ice.came(0, 1, false, 0, -1), OUTSIDE);
        Check.due("came: what 3", ice.came(0, 1, false, 0, 3), OUTSIDE);
        Check.due("came: none done", ice.count(8), 0);
    }
}
