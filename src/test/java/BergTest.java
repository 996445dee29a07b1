/** Promises 7 to 11: bergs, kinds, what is about them, what changes, coin. */
public final class BergTest {
    private static final int NONE = -1;
    private static final int UNKNOWN = -101;
    private static final int OUTSIDE = -102;
    private static final int FULL = -104;
    private static final int MIN = Integer.MIN_VALUE;
    private static final int MAX = Integer.MAX_VALUE;

    public static void main(String[] args) {
        berg();
        refusedBergs();
        fullBergs();
        as();
        about();
        change();
        coin();
        Check.end();
    }

    private static void berg() {
        IceForCoast ice = Check.at("12/h#");
        Check.due("the least", ice.berg(0, 0, 10, 0, 0), 0);
        Check.due("the most", ice.berg(1, 1, 999, 99, 0), 1);
        Check.due("rotten by 2", ice.berg(2, 0, 100, 50, 2), 2);
        Check.due("rotten by 9", ice.berg(2, 0, 100, 50, 9), 3);
        Check.due("rolled", ice.berg(4, 0, 100, 50, 0), 4);
        Check.due("five", ice.count(1), 5);
    }

    private static void refusedBergs() {
        IceForCoast none = new IceForCoast();
        Check.due("no sea", none.berg(0, 0, 100, 10, 0), UNKNOWN);
        Check.due("no sea, kind", none.berg(5, 0, 100, 10, 0), OUTSIDE);
        IceForCoast ice = Check.at("12/h#");
        Check.due("kind 5", ice.berg(5, 0, 100, 10, 0), OUTSIDE);
        Check.due("kind -1", ice.berg(-1, 0, 100, 10, 0), OUTSIDE);
        Check.due("kind ahead of square", ice.berg(MIN, 9, 100, 10, 0), OUTSIDE);
        Check.due("square 4", ice.berg(0, 4, 100, 10, 0), UNKNOWN);
        Check.due("square -1", ice.berg(0, -1, 100, 10, 0), UNKNOWN);
        Check.due("square max", ice.berg(0, MAX, 100, 10, 0), UNKNOWN);
        Check.due("the harbour", ice.berg(0, 2, 100, 10, 0), UNKNOWN);
        Check.due("land", ice.berg(0, 3, 100, 10, 0), UNKNOWN);
        Check.due("square ahead of size", ice.berg(0, 3, 9, 10, 0), UNKNOWN);
        Check.due("size 9", ice.berg(0, 0, 9, 10, 0), OUTSIDE);
        Check.due("size 1000", ice.berg(0, 0, 1000, 10, 0), OUTSIDE);
        Check.due("foot -1", ice.berg(0, 0, 100, -1, 0), OUTSIDE);
        Check.due("foot 100", ice.berg(0, 0, 100, 100, 0), OUTSIDE);
        Check.due("rotten by 1", ice.berg(2, 0, 100, 10, 1), OUTSIDE);
        Check.due("rotten by 10", ice.berg(2, 0, 100, 10, 10), OUTSIDE);
        Check.due("rotten by 0", ice.berg(2, 0, 100, 10, 0), OUTSIDE);
        for (int kind = 0; kind <= 4; kind++) {
            int want = kind == 2 ? 0 : OUTSIDE;
            Check.due("kind " + kind + " by 3", ice.berg(kind, 0, 100, 10, 3), want);
            Check.due("kind " + kind + " by -1", ice.berg(kind, 0, 100, 10, -1), OUTSIDE);
        }
        Check.due("one came", ice.count(1), 1);
    }

    private static void fullBergs() {
        IceForCoast ice = Check.at("12/h#");
        for (int i = 0; i < 5; i++) {
            Check.due("berg " + i, ice.berg(0, 0, 100, 10, 0), i);
        }
        Check.due("a sixth", ice.berg(0, 0, 100, 10, 0), FULL);
        Check.due("a sixth, outside first", ice.berg(0, 0, 9, 10, 0), OUTSIDE);
        Check.due("a sixth, unknown first", ice.berg(0, 9, 100, 10, 0), UNKNOWN);
        Check.due("still five", ice.count(1), 5);
    }

    private static void as() {
        IceForCoast ice = Check.at("12/h#");
        for (int kind = 0; kind <= 4; kind++) {
            ice.berg(kind, 0, 100, 10, kind == 2 ? 3 : 0);
        }
        boolean[][] isA = {
            {true, false, false, false, false},
            {true, true, false, false, false},
            {true, false, true, false, false},
            {true, false, false, true, false},
            {true, true, false, false, true},
        };
        for (int berg = 0; berg <= 4; berg++) {
            for (int kind = 0; kind <= 4; kind++) {
                Check.due("as(" + berg + ", " + kind + ")", ice.as(berg, kind), isA[berg][kind] ? berg : NONE);
            }
            Check.due("as(" + berg + ", 5)", ice.as(berg, 5), OUTSIDE);
            Check.due("as(" + berg + ", -1)", ice.as(berg, -1), OUTSIDE);
        }
        Check.due("as(5, 0)", ice.as(5, 0), UNKNOWN);
        Check.due("as(-1, 0)", ice.as(-1, 0), UNKNOWN);
        Check.due("as(5, 5)", ice.as(5, 5), UNKNOWN);
    }

    private static void about() {
        IceForCoast ice = Check.at("12/h#");
        ice.berg(0, 0, 100, 10, 0);
        ice.berg(2, 1, 345, 67, 8);
        int[] told = {2, 1, 345, 67, 8};
        for (int what = 0; what <= 4; what++) {
            Check.due("about(1, " + what + ")", ice.about(1, what), told[what]);
        }
        Check.due("about(0, 4)", ice.about(0, 4), 0);
        Check.due("about(1, 5)", ice.about(1, 5), OUTSIDE);
        Check.due("about(1, -1)", ice.about(1, -1), OUTSIDE);
        Check.due("about(2, 0)", ice.about(2, 0), UNKNOWN);
        Check.due("about(-1, 5)", ice.about(-1, 5), UNKNOWN);
        ice.tow(1, 1, false, 0);
        Check.due("a tow leaves the size", ice.about(1, 2), 345);
        Check.due("a tow leaves the foot", ice.about(1, 3), 67);
    }

    private static void change() {
        IceForCoast ice = Check.at("12/h#");
        ice.berg(0, 0, 100, 10, 0);
        Check.due("size", ice.change(0, 2, 999), 100);
        Check.due("size down", ice.change(0, 2, 10), 999);
        Check.due("size told", ice.about(0, 2), 10);
        Check.due("foot", ice.change(0, 3, 99), 10);
        Check.due("foot down", ice.change(0, 3, 0), 99);
        Check.due("foot told", ice.about(0, 3), 0);
        Check.due("size 9", ice.change(0, 2, 9), OUTSIDE);
        Check.due("size 1000", ice.change(0, 2, 1000), OUTSIDE);
        Check.due("foot -1", ice.change(0, 3, -1), OUTSIDE);
        Check.due("foot 100", ice.change(0, 3, 100), OUTSIDE);
        for (int what : new int[] {-1, 0, 1, 4, 5, MAX}) {
            Check.due("change(0, " + what + ", 50)", ice.change(0, what, 50), OUTSIDE);
        }
        Check.due("another berg", ice.change(1, 2, 50), UNKNOWN);
        Check.due("unknown ahead of outside", ice.change(-1, 9, 5), UNKNOWN);
        Check.due("size as it was", ice.about(0, 2), 10);
        Check.due("foot as it was", ice.about(0, 3), 0);
        bestOfWhatBecame(ice);
    }

    private static void bestOfWhatBecame(IceForCoast ice) {
        ice.change(0, 2, 100);
        Check.due("best() of foot 0: one day of six tugs", ice.best(0, 2), 3 * (98 - 19) - 6);
        ice.change(0, 3, 99);
        Check.due("best() of foot 99", ice.best(0, 2), 3 * 98 - 6);
        ice.change(0, 2, 20);
        Check.due("best() of size 20", ice.best(0, 2), 3 * 19 - 2);
    }

    private static void coin() {
        IceForCoast ice = new IceForCoast();
        int[] first = {3, 1, 20};
        int[] least = {1, 0, 0};
        int[] most = {9, 9, 99};
        for (int what = 0; what <= 2; what++) {
            Check.due("coin(" + what + ", least)", ice.coin(what, least[what]), first[what]);
            Check.due("coin(" + what + ", most)", ice.coin(what, most[what]), least[what]);
            Check.due("coin(" + what + ", below)", ice.coin(what, least[what] - 1), OUTSIDE);
            Check.due("coin(" + what + ", above)", ice.coin(what, most[what] + 1), OUTSIDE);
            Check.due("count(" + (4 + what) + ")", ice.count(4 + what), most[what]);
        }
        Check.due("coin(3, 1)", ice.coin(3, 1), OUTSIDE);
        Check.due("coin(-1, 1)", ice.coin(-1, 1), OUTSIDE);
        Check.due("coin(min, min)", ice.coin(MIN, MIN), OUTSIDE);
    }
}
