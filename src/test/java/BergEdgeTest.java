/**
 * The edges of promises 7 to 11 and of what "Terms" tells of BERGS and coin: of each sentence that
 * names a boundary the call just inside and the call just outside it, and that refusals change
 * nothing.
 */
public final class BergEdgeTest {
    private static final int NONE = -1;
    private static final int UNKNOWN = -101;
    private static final int OUTSIDE = -102;
    private static final int FULL = -104;
    private static final int MIN = Integer.MIN_VALUE;
    private static final int MAX = Integer.MAX_VALUE;
    private static final int ROTTEN = 2;

    public static void main(String[] args) {
        kinds();
        squaresWithWarmth();
        sizes();
        feet();
        breaks();
        fiveBergs();
        fiveAgainBehindRestoreAndSea();
        refusalsOfBergInTheirOrder();
        bergsWithoutASea();
        castsOfEachKind();
        refusedCasts();
        whatIsAbout();
        changedSize();
        changedFoot();
        refusedChanges();
        coins();
        refusedCoins();
        Check.end();
    }

    /** A sea of warm and cold, with two bergs: 0, a plain one, and 1, a rotten one. */
    private static IceForCoast two() {
        IceForCoast ice = Check.at("09/h#");
        ice.berg(0, 0, 100, 50, 0);
        ice.berg(ROTTEN, 1, 200, 60, 7);
        return ice;
    }

    private static int breakOf(int kind) {
        return kind == ROTTEN ? 5 : 0;
    }

    // ---- promise 7: berg

    /** "KINDS: 0 BERG, 1 FLAT, 2 ROTTEN, 3 DIRTY, 4 ROLLED" */
    private static void kinds() {
        IceForCoast ice = Check.at("09/h#");
        for (int kind : new int[] {-1, 5, MIN, MAX}) {
            Check.refused(ice, "a berg of kind " + kind, () -> ice.berg(kind, 0, 100, 50, 0), OUTSIDE);
            Check.refused(ice, "a rotten berg of kind " + kind, () -> ice.berg(kind, 0, 100, 50, 5), OUTSIDE);
        }
        for (int kind = 0; kind <= 4; kind++) {
            Check.due("a berg of kind " + kind, ice.berg(kind, 0, 100, 50, breakOf(kind)), kind);
            Check.due("its kind", ice.about(kind, 0), kind);
        }
    }

    /** "UNKNOWN: square (one without WARMTH, too)" */
    private static void squaresWithWarmth() {
        IceForCoast ice = Check.at("09/h#/12");
        for (int square : new int[] {-1, 2, 3, 6, MIN, MAX}) {
            Check.refused(ice, "a berg in " + square, () -> ice.berg(0, square, 100, 50, 0), UNKNOWN);
        }
        int number = 0;
        for (int square : new int[] {0, 1, 4, 5}) {
            Check.due("a berg in " + square, ice.berg(0, square, 100, 50, 0), number);
            Check.due("its square", ice.about(number, 1), square);
            number++;
        }
        IceForCoast wide = Check.at("h11111/111111/111111/111111/111111");
        Check.due("in the last of thirty", wide.berg(0, 29, 100, 50, 0), 0);
        Check.refused(wide, "behind the last of thirty", () -> wide.berg(0, 30, 100, 50, 0), UNKNOWN);
    }

    /** "SIZE (10 to 999)" */
    private static void sizes() {
        for (int kind = 0; kind <= 4; kind++) {
            IceForCoast ice = Check.at("09/h#");
            int of = kind;
            for (int size : new int[] {MIN, -10, 0, 9, 1000, MAX}) {
                Check.refused(ice, "a berg of size " + size, () -> ice.berg(of, 0, size, 50, breakOf(of)), OUTSIDE);
            }
            int number = 0;
            for (int size : new int[] {10, 11, 998, 999}) {
                Check.due("a berg of size " + size, ice.berg(kind, 0, size, 50, breakOf(kind)), number);
                Check.due("its size", ice.about(number, 2), size);
                number++;
            }
        }
    }

    /** "FOOT (0 to 99)" */
    private static void feet() {
        for (int kind = 0; kind <= 4; kind++) {
            IceForCoast ice = Check.at("09/h#");
            int of = kind;
            for (int foot : new int[] {MIN, -1, 100, MAX}) {
                Check.refused(ice, "a berg of foot " + foot, () -> ice.berg(of, 0, 100, foot, breakOf(of)), OUTSIDE);
            }
            int number = 0;
            for (int foot : new int[] {0, 1, 98, 99}) {
                Check.due("a berg of foot " + foot, ice.berg(kind, 0, 100, foot, breakOf(kind)), number);
                Check.due("its foot", ice.about(number, 3), foot);
                number++;
            }
        }
    }

    /** "n (of a ROTTEN 2 to 9; else 0)" */
    private static void breaks() {
        IceForCoast rotten = Check.at("09/h#");
        for (int n : new int[] {MIN, -2, -1, 0, 1, 10, MAX}) {
            Check.refused(rotten, "rotten by " + n, () -> rotten.berg(ROTTEN, 0, 100, 50, n), OUTSIDE);
        }
        int number = 0;
        for (int n : new int[] {2, 3, 8, 9}) {
            Check.due("rotten by " + n, rotten.berg(ROTTEN, 0, 100, 50, n), number);
            Check.due("its n", rotten.about(number, 4), n);
            number++;
        }
        for (int kind : new int[] {0, 1, 3, 4}) {
            IceForCoast ice = Check.at("09/h#");
            for (int n : new int[] {MIN, -1, 1, 2, 9, MAX}) {
                Check.refused(ice, "kind " + kind + " by " + n, () -> ice.berg(kind, 0, 100, 50, n), OUTSIDE);
            }
            Check.due("kind " + kind + " by 0", ice.berg(kind, 0, 100, 50, 0), 0);
            Check.due("its n", ice.about(0, 4), 0);
        }
    }

    /** "5 at most, numbered" */
    private static void fiveBergs() {
        IceForCoast ice = Check.at("09/h#");
        for (int number = 0; number < 5; number++) {
            Check.due("bergs so far", ice.count(1), number);
            Check.due("berg " + number, ice.berg(0, 0, 100 + number, 50, 0), number);
        }
        Check.refused(ice, "a sixth", () -> ice.berg(0, 0, 500, 50, 0), FULL);
        Check.refused(ice, "a sixth, rotten", () -> ice.berg(ROTTEN, 1, 500, 50, 9), FULL);
        for (int number = 0; number < 5; number++) {
            Check.due("size of " + number, ice.about(number, 2), 100 + number);
        }
        Check.due("no sixth", ice.about(5, 2), UNKNOWN);
    }

    private static void fiveAgainBehindRestoreAndSea() {
        IceForCoast ice = Check.at("09/h#");
        for (int number = 0; number < 4; number++) {
            ice.berg(0, 0, 100, 50, 0);
        }
        ice.image();
        Check.due("a fifth", ice.berg(0, 0, 300, 50, 0), 4);
        Check.due("a sixth", ice.berg(0, 0, 300, 50, 0), FULL);
        Check.due("restore()", ice.restore(), 4);
        Check.due("a fifth again", ice.berg(3, 1, 400, 40, 0), 4);
        Check.due("of its own size", ice.about(4, 2), 400);
        Check.due("a sixth again", ice.berg(0, 0, 300, 50, 0), FULL);
        Check.write(ice, "09/h#");
        ice.sea();
        for (int number = 0; number < 5; number++) {
            Check.due("in another sea", ice.berg(0, 0, 100, 50, 0), number);
        }
        Check.due("a sixth in another sea", ice.berg(0, 0, 100, 50, 0), FULL);
    }

    /** "OUTSIDE: kind; UNKNOWN: square ..; OUTSIDE: size, foot, n; FULL" */
    private static void refusalsOfBergInTheirOrder() {
        IceForCoast ice = Check.at("09/h#");
        for (int i = 0; i < 5; i++) {
            ice.berg(0, 0, 100, 50, 0);
        }
        Check.refused(ice, "all is wrong", () -> ice.berg(5, 4, 9, 100, 1), OUTSIDE);
        Check.refused(ice, "kind alone is right", () -> ice.berg(4, 4, 9, 100, 1), UNKNOWN);
        Check.refused(ice, "the harbour, all behind it wrong", () -> ice.berg(4, 2, 9, 100, 1), UNKNOWN);
        Check.refused(ice, "land, all behind it wrong", () -> ice.berg(4, 3, 9, 100, 1), UNKNOWN);
        Check.refused(ice, "size, foot, n are wrong", () -> ice.berg(4, 1, 9, 100, 1), OUTSIDE);
        Check.refused(ice, "foot, n are wrong", () -> ice.berg(4, 1, 10, 100, 1), OUTSIDE);
        Check.refused(ice, "n is wrong", () -> ice.berg(4, 1, 10, 99, 1), OUTSIDE);
        Check.refused(ice, "but for the five", () -> ice.berg(4, 1, 10, 99, 0), FULL);
    }

    private static void bergsWithoutASea() {
        IceForCoast ice = new IceForCoast();
        Check.refused(ice, "kind 5 without a sea", () -> ice.berg(5, 0, 100, 50, 0), OUTSIDE);
        Check.refused(ice, "kind 4 without a sea", () -> ice.berg(4, 0, 100, 50, 0), UNKNOWN);
        Check.refused(ice, "size 9 without a sea", () -> ice.berg(4, 0, 9, 50, 0), UNKNOWN);
    }

    // ---- promise 8: as

    private static IceForCoast oneOfEachKind() {
        IceForCoast ice = Check.at("09/h#");
        for (int kind = 0; kind <= 4; kind++) {
            ice.berg(kind, 0, 100, 50, breakOf(kind));
        }
        return ice;
    }

    /** "its own number, not that of the KIND; NONE: it is none such"; "All are BERGS; a ROLLED is FLAT, too." */
    private static void castsOfEachKind() {
        IceForCoast ice = oneOfEachKind();
        for (int berg = 0; berg <= 4; berg++) {
            Check.due(berg + " as a BERG", ice.as(berg, 0), berg);
            Check.due(berg + " as what it is", ice.as(berg, berg), berg);
            for (int kind = 1; kind <= 4; kind++) {
                boolean is = kind == berg || berg == 4 && kind == 1;
                Check.due(berg + " as " + kind, ice.as(berg, kind), is ? berg : NONE);
            }
        }
        Check.due("a ROLLED as a FLAT", ice.as(4, 1), 4);
        Check.due("a FLAT as a ROLLED", ice.as(1, 4), NONE);
        Check.due("a ROTTEN as a DIRTY", ice.as(2, 3), NONE);
        IceForCoast other = Check.at("09/h#");
        other.berg(4, 0, 100, 50, 0);
        Check.due("the first, a ROLLED, as a FLAT", other.as(0, 1), 0);
        Check.due("its kind stays", other.about(0, 0), 4);
    }

    private static void refusedCasts() {
        IceForCoast ice = oneOfEachKind();
        for (int kind : new int[] {-1, 5, MIN, MAX}) {
            Check.refused(ice, "as(4, " + kind + ")", () -> ice.as(4, kind), OUTSIDE);
            for (int berg : new int[] {-1, 5, MIN, MAX}) {
                Check.refused(ice, "as(" + berg + ", " + kind + ")", () -> ice.as(berg, kind), UNKNOWN);
            }
        }
        IceForCoast fewer = two();
        Check.due("the last of two", fewer.as(1, 2), 1);
        Check.refused(fewer, "behind the last of two", () -> fewer.as(2, 0), UNKNOWN);
    }

    // ---- promise 9: about

    private static void whatIsAbout() {
        IceForCoast ice = two();
        int[][] told = {{0, 0, 100, 50, 0}, {2, 1, 200, 60, 7}};
        for (int berg = 0; berg < 2; berg++) {
            int of = berg;
            for (int what = 0; what <= 4; what++) {
                Check.due("about(" + berg + ", " + what + ")", ice.about(berg, what), told[berg][what]);
            }
            for (int what : new int[] {-1, 5, MIN, MAX}) {
                Check.refused(ice, "about(" + berg + ", " + what + ")", () -> ice.about(of, what), OUTSIDE);
            }
        }
        for (int berg : new int[] {-1, 2, 4, 5, MIN, MAX}) {
            for (int what : new int[] {0, 4, 5, -1}) {
                Check.refused(ice, "about(" + berg + ", " + what + ")", () -> ice.about(berg, what), UNKNOWN);
            }
        }
    }

    // ---- promise 10: change

    /** "SIZE (what = 2) .. become v: what it was": 10 to 999. */
    private static void changedSize() {
        IceForCoast ice = two();
        int was = 200;
        for (int size : new int[] {10, 11, 999, 998, 998}) {
            Check.due("change(1, 2, " + size + ")", ice.change(1, 2, size), was);
            Check.due("its size", ice.about(1, 2), size);
            was = size;
        }
        for (int size : new int[] {MIN, -1, 0, 9, 1000, MAX}) {
            Check.refused(ice, "change(1, 2, " + size + ")", () -> ice.change(1, 2, size), OUTSIDE);
        }
        Check.due("its size stays", ice.about(1, 2), 998);
        Check.due("its foot stays", ice.about(1, 3), 60);
        Check.due("that of the other stays", ice.about(0, 2), 100);
    }

    /** "FOOT (3) become v: what it was": 0 to 99. */
    private static void changedFoot() {
        IceForCoast ice = two();
        int was = 60;
        for (int foot : new int[] {0, 1, 9, 99, 98, 98}) {
            Check.due("change(1, 3, " + foot + ")", ice.change(1, 3, foot), was);
            Check.due("its foot", ice.about(1, 3), foot);
            was = foot;
        }
        for (int foot : new int[] {MIN, -1, 100, 999, MAX}) {
            Check.refused(ice, "change(1, 3, " + foot + ")", () -> ice.change(1, 3, foot), OUTSIDE);
        }
        Check.due("its foot stays", ice.about(1, 3), 98);
        Check.due("its size stays", ice.about(1, 2), 200);
        Check.due("that of the other stays", ice.about(0, 3), 50);
    }

    private static void refusedChanges() {
        IceForCoast ice = two();
        for (int what : new int[] {MIN, -1, 0, 1, 4, 5, MAX}) {
            Check.refused(ice, "change(1, " + what + ", 50)", () -> ice.change(1, what, 50), OUTSIDE);
        }
        for (int berg : new int[] {-1, 2, 5, MIN, MAX}) {
            Check.refused(ice, "change(" + berg + ", 2, 50)", () -> ice.change(berg, 2, 50), UNKNOWN);
            Check.refused(ice, "change(" + berg + ", 4, 1000)", () -> ice.change(berg, 4, 1000), UNKNOWN);
        }
        IceForCoast none = new IceForCoast();
        Check.refused(none, "change without a sea", () -> none.change(0, 2, 50), UNKNOWN);
    }

    // ---- promise 11: coin

    /** "PRICE (1 to 9, 3 at first) .., WAGE (0 to 9, 1 at first) .., CLOTH (0 to 99, 20 at first)" */
    private static void coins() {
        int[] first = {3, 1, 20};
        int[] least = {1, 0, 0};
        int[] most = {9, 9, 99};
        for (int what = 0; what <= 2; what++) {
            IceForCoast ice = two();
            int of = what;
            Check.due("coin " + what + " at first", ice.count(4 + what), first[what]);
            for (int v : new int[] {MIN, least[what] - 1, most[what] + 1, MAX}) {
                Check.refused(ice, "coin(" + what + ", " + v + ")", () -> ice.coin(of, v), OUTSIDE);
            }
            int was = first[what];
            for (int v : new int[] {least[what], least[what] + 1, most[what] - 1, most[what], most[what]}) {
                Check.due("coin(" + what + ", " + v + ")", ice.coin(what, v), was);
                Check.due("count(" + (4 + what) + ")", ice.count(4 + what), v);
                was = v;
            }
            for (int other = 0; other <= 2; other++) {
                int want = other == what ? most[what] : first[other];
                Check.due("count(" + (4 + other) + ") behind coin(" + what + ", ..)", ice.count(4 + other), want);
            }
        }
    }

    private static void refusedCoins() {
        for (IceForCoast ice : new IceForCoast[] {new IceForCoast(), two()}) {
            for (int what : new int[] {MIN, -1, 3, 4, MAX}) {
                for (int v : new int[] {0, 1, 9, 10}) {
                    Check.refused(ice, "coin(" + what + ", " + v + ")", () -> ice.coin(what, v), OUTSIDE);
                }
            }
            Check.due("coin(2, 0), with a sea and without one", ice.coin(2, 0), 20);
        }
    }
}
