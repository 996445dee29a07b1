/** Promises 12, 13 and 17: days in a square, steps, ways, the best of them, drawn days. */
public final class TowTest {
    private static final int NONE = -1;
    private static final int UNKNOWN = -101;
    private static final int OUTSIDE = -102;
    private static final int NO_WAY = -100001;
    private static final int FAR_UNKNOWN = -100101;
    private static final int FAR_OUTSIDE = -100102;
    private static final int MAX = Integer.MAX_VALUE;

    public static void main(String[] args) {
        daysInASquare();
        turningOver();
        breaking();
        currents();
        gone();
        bestOfWays();
        likeWays();
        ways();
        refusedTows();
        drawn();
        refusedDraws();
        Check.end();
    }

    /** Water and days of one berg in the first square, towed without a skirt or with one. */
    private static void towed(String sea, int[] berg, int tugs, boolean skirt, int water, int days) {
        IceForCoast ice = Check.at(sea);
        ice.berg(berg[0], 0, berg[1], berg[2], berg[3]);
        String told = sea + ": kind " + berg[0] + ", size " + berg[1] + ", foot " + berg[2] + ", n " + berg[3] + ", "
            + tugs + " tugs, skirt " + skirt;
        Check.due(told + ": water", ice.tow(0, tugs, skirt, 0), water);
        Check.due(told + ": days", ice.tow(0, tugs, skirt, 1), days);
        int gain = 3 * water - tugs * days - (skirt ? 20 : 0);
        Check.due(told + ": gain", ice.tow(0, tugs, skirt, 2), gain);
    }

    private static int[] ice(int kind, int size, int foot, int n) {
        return new int[] {kind, size, foot, n};
    }

    private static void daysInASquare() {
        // 1 + 100 / 20 days; 2 melt on the first of them, then 1 each.
        towed("1h/00", ice(0, 100, 50, 0), 1, false, 93, 6);
        towed("1h/00", ice(0, 100, 50, 0), 1, true, 93, 6);
        towed("1h/00", ice(1, 100, 50, 0), 1, false, 94, 6);
        // Two days, of 1 + 5 and 1 + 4: half of it is 3 and 3, a third of it less 4 and 4.
        towed("5h/00", ice(0, 100, 99, 0), 5, false, 89, 2);
        towed("5h/00", ice(0, 100, 99, 0), 5, true, 92, 2);
        towed("5h/00", ice(1, 100, 99, 0), 5, false, 94, 2);
        towed("5h/00", ice(4, 100, 99, 0), 5, false, 94, 2);
        towed("5h/00", ice(3, 100, 99, 0), 5, false, 87, 2);
        towed("5h/00", ice(3, 100, 99, 0), 5, true, 91, 2);
        // A day of 1 + 2: half of it is 2, of which no third is taken.
        towed("2h/00", ice(1, 100, 99, 0), 11, true, 98, 1);
        towed("0h/00", ice(3, 100, 99, 0), 11, false, 98, 1);
        // The square that is left is the one that counts, and the size as each step begins.
        towed("00h/000", ice(0, 100, 99, 0), 1, false, 89, 11);
        towed("09h/000", ice(0, 100, 99, 0), 11, false, 99 - 9, 2);
        towed("0h/00", ice(0, 19, 99, 0), 1, false, 18, 1);
        towed("0h/00", ice(0, 20, 99, 0), 1, false, 18, 2);
        towed("0h/00", ice(0, 219, 99, 0), 11, false, 218, 1);
        towed("0h/00", ice(0, 220, 99, 0), 11, false, 218, 2);
    }

    private static void turningOver() {
        // 94, over: 76; 72; 68, over: 55; 52; 49, over: 40; 37.
        towed("5h/00", ice(0, 100, 5, 0), 5, false, 72, 2);
        towed("5h/00", ice(0, 100, 5, 0), 1, false, 37, 6);
        towed("5h/00", ice(0, 100, 4, 0), 5, false, 72, 2);
        towed("5h/00", ice(0, 100, 6, 0), 11, false, 94, 1);
        towed("5h/00", ice(4, 100, 5, 0), 5, false, 94, 2);
        towed("5h/00", ice(1, 100, 5, 0), 11, false, 97 - 19, 1);
        // Without warmth, too, and but once: its foot is 9 then.
        towed("0h/00", ice(0, 100, 0, 0), 5, false, 79, 2);
        towed("0h/00", ice(4, 100, 0, 0), 5, false, 98, 2);
        towed("0h/00", ice(0, 100, 1, 0), 5, false, 98, 2);
        // A dirty one stands on warmth as it is: 5, not 6.
        towed("5h/00", ice(3, 100, 6, 0), 11, false, 93, 1);
        towed("5h/00", ice(3, 100, 5, 0), 11, false, 93 - 18, 1);
    }

    private static void breaking() {
        // 99; 98, a tenth of it rounded up is 10.
        towed("0h/00", ice(2, 100, 99, 2), 5, false, 88, 2);
        towed("0h/00", ice(2, 100, 99, 3), 5, false, 98, 2);
        // 91, 90: just 9 of it.
        towed("0h/00", ice(2, 92, 99, 2), 4, false, 81, 2);
        // Days count over the whole tow: the second one is in the second square.
        towed("00h/000", ice(2, 100, 99, 2), 11, false, 88, 2);
        // 99; 90, over: 72, broken: 64.
        towed("09h/000", ice(2, 100, 9, 2), 11, false, 99 - 9 - 18 - 8, 2);
    }

    private static void currents() {
        towed("0eh/00", ice(0, 100, 99, 0), 1, false, 95, 5);
        towed("0wh/00", ice(0, 100, 99, 0), 1, false, 93, 7);
        towed("0nh/00", ice(0, 100, 99, 0), 1, false, 94, 6);
        towed("0sh/00", ice(0, 100, 99, 0), 1, false, 94, 6);
        towed("0eh/00", ice(0, 10, 99, 0), 11, false, 9, 1);
        // But that of the square that is left counts.
        towed("00wh/000", ice(0, 100, 99, 0), 11, false, 97, 3);
        towed("0s0/h0", ice(0, 100, 99, 0), 1, false, 95, 5);
        towed("0n0/h0", ice(0, 100, 99, 0), 1, false, 93, 7);
        IceForCoast ice = Check.at("00/h0n");
        ice.berg(0, 3, 100, 99, 0);
        Check.due("0n to the west", ice.tow(0, 1, false, 1), 6);
        ice = Check.at("h0w/00e");
        ice.berg(0, 1, 100, 99, 0);
        Check.due("0w to the west", ice.tow(0, 1, false, 1), 5);
        ice.berg(0, 3, 10, 99, 0);
        Check.due("0e to the north, then 0w", ice.tow(1, 1, false, 1), 2);
        Check.due("north first", ice.tow(1, 1, false, 10), 0);
        Check.due("west then", ice.tow(1, 1, false, 11), 3);
    }

    private static void gone() {
        IceForCoast ice = Check.at("999999/999999/999999/999999/99999h");
        ice.berg(0, 0, 10, 0, 0);
        // 9, over: 8; 7, 6; 5, 4; 3, 3; 2, 2; 1, 1; 0 on the seventh day of a way of nine steps.
        Check.due("gone: water", ice.tow(0, 1, false, 0), 0);
        Check.due("gone: days", ice.tow(0, 1, false, 1), 7);
        Check.due("gone: gain", ice.tow(0, 1, false, 2), -7);
        Check.due("gone: gain by 11, with a skirt", ice.tow(0, 11, true, 2), -20 - 77);
        Check.due("gone: steps of the way", ice.tow(0, 1, false, 3), 9);
        int[] steps = {1, 1, 1, 1, 1, 2, 2, 2, 2};
        for (int i = 0; i < 9; i++) {
            Check.due("gone: step " + i, ice.tow(0, 1, false, 10 + i), steps[i]);
        }
        Check.due("gone: the last seed of seven", ice.drawn(0, 1, false, 0, 1), drawnDaysOfGone());
    }

    /** The days until 10 of ice at a foot of 0 in warmth 9 are gone by draws from seed 0. */
    private static int drawnDaysOfGone() {
        long seed = 0;
        int size = 10;
        int foot = 0;
        int days = 0;
        while (size > 0 && days < 9) {
            seed = (seed * 1103515245L + 12345) % 2147483648L;
            int warmth = 9 + (int) (seed / 65536 % 3) - 1;
            size -= 1 + warmth * size / 100;
            foot = Math.max(0, foot - warmth);
            if (foot == 0) {
                size -= size / 5;
                foot = 9;
            }
            days++;
        }
        return days;
    }

    private static void bestOfWays() {
        // East first is through 9, south first through 0.
        IceForCoast ice = Check.at("09/0h");
        ice.berg(0, 0, 100, 99, 0);
        Check.due("the cold way: water", ice.tow(0, 11, false, 0), 98);
        Check.due("the cold way: first", ice.tow(0, 11, false, 10), 2);
        Check.due("the cold way: second", ice.tow(0, 11, false, 11), 1);
        Check.due("the cold way: no third", ice.tow(0, 11, false, 12), NONE);
        Check.due("the cold way: no ninth", ice.tow(0, 11, false, 18), NONE);
        Check.due("the cold way: steps", ice.tow(0, 11, false, 3), 2);
        // By the south 88 in 12 days, by the east, warm and with the current, 86 in 10.
        IceForCoast slow = Check.at("02s/0wh");
        slow.berg(0, 0, 100, 99, 0);
        Check.due("low wages: the slow way", slow.tow(0, 1, false, 10), 2);
        Check.due("low wages: gain", slow.tow(0, 1, false, 2), 3 * 88 - 12);
        slow.coin(1, 9);
        Check.due("high wages: the quick way", slow.tow(0, 1, false, 10), 1);
        Check.due("high wages: gain", slow.tow(0, 1, false, 2), 3 * 86 - 90);
        slow.coin(0, 9);
        Check.due("high price: the slow way", slow.tow(0, 1, false, 2), 9 * 88 - 108);
    }

    private static void likeWays() {
        IceForCoast ice = Check.at("000/000/00h");
        ice.berg(0, 0, 100, 99, 0);
        int[] first = {1, 1, 2, 2};
        for (int i = 0; i < 4; i++) {
            Check.due("of like ways the first: step " + i, ice.tow(0, 5, false, 10 + i), first[i]);
        }
        IceForCoast up = Check.at("h00/000/000");
        up.berg(0, 8, 100, 99, 0);
        int[] north = {0, 0, 3, 3};
        for (int i = 0; i < 4; i++) {
            Check.due("of like ways n ahead of w: step " + i, up.tow(0, 5, false, 10 + i), north[i]);
        }
        IceForCoast top = Check.at("h0/00/00");
        top.berg(0, 4, 100, 99, 0);
        Check.due("two up", top.tow(0, 5, false, 3), 2);
        Check.due("two up: one way", top.ways(0), 1);
        IceForCoast down = Check.at("00h/000/000");
        down.berg(0, 6, 100, 99, 0);
        Check.due("of like ways n ahead of e", down.tow(0, 5, false, 10), 0);
        IceForCoast west = Check.at("000/h00");
        west.berg(0, 2, 100, 99, 0);
        Check.due("of like ways s ahead of w", west.tow(0, 5, false, 10), 2);
        fewestDaysOfLikeGain();
    }

    /** Without wages 47 by the east in 3 days are as good as 47 by the south in 2, but for the days. */
    private static void fewestDaysOfLikeGain() {
        IceForCoast ice = Check.at("00n/3h");
        ice.coin(1, 0);
        ice.berg(0, 0, 50, 99, 0);
        Check.due("wage 0: gain", ice.tow(0, 11, false, 2), 3 * 47);
        Check.due("wage 0: days", ice.tow(0, 11, false, 1), 2);
        Check.due("wage 0: south", ice.tow(0, 11, false, 10), 2);
        IceForCoast turned = Check.at("03/0wh");
        turned.coin(1, 0);
        turned.berg(0, 0, 50, 99, 0);
        Check.due("turned round: east", turned.tow(0, 11, false, 10), 1);
        Check.due("turned round: days", turned.tow(0, 11, false, 1), 2);
    }

    private static void ways() {
        IceForCoast ice = Check.at("111111/111111/111111/111111/11111h");
        ice.berg(0, 0, 100, 99, 0);
        ice.berg(0, 28, 100, 99, 0);
        ice.berg(0, 22, 100, 99, 0);
        Check.due("ways from the far corner", ice.ways(0), 126);
        Check.due("ways from beside", ice.ways(1), 1);
        Check.due("ways from across", ice.ways(2), 2);
        Check.due("ways(3)", ice.ways(3), UNKNOWN);
        Check.due("ways(-1)", ice.ways(-1), UNKNOWN);
        IceForCoast land = Check.at("1#1/111/11h");
        land.berg(0, 0, 100, 99, 0);
        land.berg(0, 2, 100, 99, 0);
        land.berg(0, 3, 100, 99, 0);
        Check.due("ways round land", land.ways(0), 3);
        Check.due("ways down", land.ways(1), 1);
        Check.due("ways of two by one", land.ways(2), 3);
        IceForCoast detour = Check.at("1#h/111");
        detour.berg(0, 0, 100, 99, 0);
        Check.due("no way leads round", detour.ways(0), 0);
        Check.due("no way: tow()", detour.tow(0, 1, false, 0), NO_WAY);
        Check.due("ways of none", new IceForCoast().ways(0), UNKNOWN);
    }

    private static void refusedTows() {
        IceForCoast ice = Check.at("10h/1##");
        ice.berg(0, 0, 100, 99, 0);
        ice.berg(0, 3, 100, 99, 0);
        Check.due("tow(2, ..)", ice.tow(2, 1, false, 0), FAR_UNKNOWN);
        Check.due("tow(-1, ..)", ice.tow(-1, 0, false, 9), FAR_UNKNOWN);
        Check.due("0 tugs", ice.tow(0, 0, false, 0), FAR_OUTSIDE);
        Check.due("12 tugs", ice.tow(0, 12, false, 0), FAR_OUTSIDE);
        for (int what : new int[] {-1, 4, 9, 19, MAX, Integer.MIN_VALUE}) {
            Check.due("tow(0, 1, false, " + what + ")", ice.tow(0, 1, false, what), FAR_OUTSIDE);
        }
        Check.due("11 tugs", ice.tow(0, 11, false, 3), 2);
        IceForCoast shut = Check.at("1#h/1##");
        shut.berg(0, 0, 100, 99, 0);
        Check.due("no way: water", shut.tow(0, 1, false, 0), NO_WAY);
        Check.due("no way: step", shut.tow(0, 1, true, 18), NO_WAY);
        Check.due("no way: outside first", shut.tow(0, 12, true, 18), FAR_OUTSIDE);
    }

    private static void drawn() {
        // Seeds behind 1: 1103527590, 377401575, 662824084, ..: by 65536 and 3 draws are 1, 2, 2.
        IceForCoast ice = Check.at("5h/00");
        ice.berg(0, 0, 100, 99, 0);
        long first = (1103515245L + 12345) % 2147483648L;
        long second = (1103515245L * first + 12345) % 2147483648L;
        int one = 5 + (int) (first / 65536 % 3) - 1;
        int two = 5 + (int) (second / 65536 % 3) - 1;
        int left = 100 - 1 - one;
        left -= 1 + two * left / 100;
        Check.due("drawn: water", ice.drawn(0, 5, false, 1, 0), left);
        Check.due("drawn: days", ice.drawn(0, 5, false, 1, 1), 2);
        Check.due("drawn: seed", ice.drawn(0, 5, false, 1, 2), second);
        Check.due("drawn: one day from 0", ice.drawn(0, 11, false, 0, 2), 12345);
        Check.due("drawn: from the greatest seed", ice.drawn(0, 11, false, MAX, 2),
            (1103515245L * MAX + 12345) % 2147483648L);
        Check.due("drawn: tow() as before", ice.tow(0, 5, false, 0), 89);
        drawnOnTheWay();
        coldDraws();
    }

    /** Two steps of a day each, through warmth 2 and 9: a draw of the day on top of either. */
    private static void drawnOnTheWay() {
        IceForCoast ice = Check.at("29h/###");
        ice.berg(0, 0, 100, 99, 0);
        for (int seed = 0; seed < 20; seed++) {
            long first = (1103515245L * seed + 12345) % 2147483648L;
            long second = (1103515245L * first + 12345) % 2147483648L;
            int left = 100 - 1 - (2 + (int) (first / 65536 % 3) - 1);
            left -= 1 + (9 + (int) (second / 65536 % 3) - 1) * left / 100;
            Check.due("drawn on the way from " + seed, ice.drawn(0, 11, false, seed, 0), left);
            Check.due("drawn on the way: seed", ice.drawn(0, 11, false, seed, 2), second);
        }
    }

    /** Where it is 0, a draw of 0 leaves it 0: 1 melts a day, and one more by each 1 of 100. */
    private static void coldDraws() {
        IceForCoast ice = Check.at("0h/00");
        ice.berg(0, 0, 100, 99, 0);
        for (int seed = 0; seed < 30; seed++) {
            long next = (1103515245L * seed + 12345) % 2147483648L;
            int draw = (int) (next / 65536 % 3);
            Check.due("cold: seed " + seed, ice.drawn(0, 11, false, seed, 0), draw == 2 ? 98 : 99);
        }
        ice.change(0, 3, 1);
        for (int seed = 0; seed < 30; seed++) {
            long next = (1103515245L * seed + 12345) % 2147483648L;
            int draw = (int) (next / 65536 % 3);
            int water = draw == 2 ? 98 - 19 : 99;
            Check.due("cold, on a foot of 1: seed " + seed, ice.drawn(0, 11, false, seed, 0), water);
        }
    }

    private static void refusedDraws() {
        IceForCoast ice = Check.at("5h/##");
        ice.berg(0, 0, 100, 99, 0);
        Check.due("drawn(1, ..)", ice.drawn(1, 1, false, 0, 0), UNKNOWN);
        Check.due("drawn(-1, outside)", ice.drawn(-1, 0, false, -1, 9), UNKNOWN);
        Check.due("drawn by 0", ice.drawn(0, 0, false, 0, 0), OUTSIDE);
        Check.due("drawn by 12", ice.drawn(0, 12, false, 0, 0), OUTSIDE);
        Check.due("drawn from -1", ice.drawn(0, 1, false, -1, 0), OUTSIDE);
        Check.due("drawn: -1", ice.drawn(0, 1, false, 0, -1), OUTSIDE);
        Check.due("drawn: 3", ice.drawn(0, 1, false, 0, 3), OUTSIDE);
        IceForCoast shut = Check.at("1#h/1##");
        shut.berg(0, 0, 100, 99, 0);
        Check.due("drawn: no way", shut.drawn(0, 1, false, 0, 0), NONE);
        Check.due("drawn: no way, outside first", shut.drawn(0, 1, false, 0, 3), OUTSIDE);
    }
}
