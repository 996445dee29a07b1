/**
 * The edges of what "Terms" tells of A DAY and of being TOWED, as tow() tells them: each number
 * that is rounded, just below and just at the next; each least and most.
 */
public final class DayEdgeTest {
    private static final int BERG = 0;
    private static final int FLAT = 1;
    private static final int ROTTEN = 2;
    private static final int DIRTY = 3;
    private static final int ROLLED = 4;

    public static void main(String[] args) {
        meltedAsInts();
        meltedOfADirty();
        meltedByHalf();
        meltedWithASkirt();
        meltedByHalfWithASkirt();
        turnsOverAtZero();
        turnsOverByAFifth();
        footIsNineThen();
        aRolledDoesNot();
        breaksEachNthDay();
        breaksByATenth();
        daysOfAStep();
        daysOfTheNextStep();
        currentOfEachWay();
        oneDayAtLeast();
        currentOfTheSquareThatItLeaves();
        gone();
        noMoreDays();
        goneByBreaking();
        gain();
        gainBelowZero();
        Check.end();
    }

    /** Water and days of a berg in the first square; its foot is 99 and, of a rotten one, n is 9. */
    private static void towed(String sea, int kind, int size, int tugs, boolean skirt, int water, int days) {
        towedOn(sea, new int[] {kind, size, 99, kind == ROTTEN ? 9 : 0}, tugs, skirt, water, days);
    }

    private static void towedOn(String sea, int[] berg, int tugs, boolean skirt, int water, int days) {
        IceForCoast ice = Check.at(sea);
        Check.due("berg()", ice.berg(berg[0], 0, berg[1], berg[2], berg[3]), 0);
        String told = sea + ": kind " + berg[0] + ", size " + berg[1] + ", foot " + berg[2] + ", n " + berg[3] + ", "
            + tugs + " tugs, " + (skirt ? "with a skirt" : "without");
        Check.due(told + ": water", ice.tow(0, tugs, skirt, 0), water);
        Check.due(told + ": days", ice.tow(0, tugs, skirt, 1), days);
        Check.due(told + ": gain", ice.tow(0, tugs, skirt, 2), 3 * water - tugs * days - (skirt ? 20 : 0));
    }

    /** A day of eleven tugs, which take one for a size below 220. */
    private static void oneDay(int warmth, int kind, int size, boolean skirt, int water) {
        towed(warmth + "h/##", kind, size, 11, skirt, water, 1);
    }

    private static void oneDayOn(int warmth, int kind, int size, int foot, int water) {
        towedOn(warmth + "h/##", new int[] {kind, size, foot, 0}, 11, false, water, 1);
    }

    // ---- A DAY: 1

    /** "1 + WARMTH * SIZE / 100, as ints" */
    private static void meltedAsInts() {
        oneDay(0, BERG, 10, false, 9);
        oneDay(0, BERG, 219, false, 218);
        oneDay(1, BERG, 99, false, 98);
        oneDay(1, BERG, 100, false, 98);
        oneDay(1, BERG, 199, false, 197);
        oneDay(1, BERG, 200, false, 197);
        oneDay(9, BERG, 11, false, 10);
        oneDay(9, BERG, 12, false, 10);
        // 9 * 211 is 1899, 9 * 212 is 1908.
        oneDay(9, BERG, 211, false, 211 - 19);
        oneDay(9, BERG, 212, false, 212 - 20);
        oneDay(1, ROTTEN, 99, false, 98);
        oneDay(1, ROTTEN, 100, false, 98);
    }

    /** "of a DIRTY WARMTH + 1 in place of WARMTH" */
    private static void meltedOfADirty() {
        oneDay(0, DIRTY, 99, false, 98);
        oneDay(0, DIRTY, 100, false, 98);
        oneDay(8, DIRTY, 11, false, 10);
        oneDay(8, DIRTY, 12, false, 10);
        oneDay(9, DIRTY, 19, false, 17);
        oneDay(9, DIRTY, 20, false, 17);
        oneDay(1, DIRTY, 49, false, 48);
        oneDay(1, DIRTY, 50, false, 48);
    }

    /** "of a FLAT and a ROLLED by half of that (rounded up)": 1, 2, 3, 4, 5 are 1, 1, 2, 2, 3. */
    private static void meltedByHalf() {
        for (int kind : new int[] {FLAT, ROLLED}) {
            oneDay(0, kind, 100, false, 99);
            oneDay(1, kind, 99, false, 98);
            oneDay(1, kind, 100, false, 99);
            oneDay(2, kind, 100, false, 98);
            oneDay(3, kind, 100, false, 98);
            oneDay(4, kind, 100, false, 97);
        }
    }

    /** "with a SKIRT by a third of that (rounded down) less": 1 to 9 are 1, 2, 2, 3, 4, 4, 5, 6, 6. */
    private static void meltedWithASkirt() {
        int[] melt = {1, 2, 2, 3, 4, 4, 5, 6, 6, 7};
        for (int warmth = 0; warmth <= 9; warmth++) {
            oneDay(warmth, BERG, 100, true, 100 - melt[warmth]);
            oneDay(warmth, BERG, 100, false, 100 - warmth - 1);
        }
        for (int warmth = 0; warmth <= 8; warmth++) {
            oneDay(warmth, DIRTY, 100, true, 100 - melt[warmth + 1]);
        }
    }

    /** The half first, then a third of that: 3 are 2 and 2, 5 are 3 and 2, 6 are 3 and 2. */
    private static void meltedByHalfWithASkirt() {
        for (int kind : new int[] {FLAT, ROLLED}) {
            oneDay(2, kind, 100, true, 98);
            oneDay(3, kind, 100, true, 98);
            oneDay(4, kind, 100, true, 98);
            oneDay(5, kind, 100, true, 98);
            oneDay(6, kind, 100, true, 97);
        }
    }

    // ---- A DAY: 2

    /** "FOOT is WARMTH less (0 at least); if it is 0 then, it TURNS OVER": 94 is left, or 76. */
    private static void turnsOverAtZero() {
        for (int foot : new int[] {0, 1, 4, 5}) {
            oneDayOn(5, BERG, 100, foot, 76);
        }
        for (int foot : new int[] {6, 7, 99}) {
            oneDayOn(5, BERG, 100, foot, 94);
        }
        oneDayOn(0, BERG, 100, 0, 80);
        oneDayOn(0, BERG, 100, 1, 99);
        // A DIRTY one has a warmth of 5 under its foot, too: 93 is left, or 75.
        oneDayOn(5, DIRTY, 100, 5, 75);
        oneDayOn(5, DIRTY, 100, 6, 93);
        oneDayOn(5, FLAT, 100, 5, 78);
        oneDayOn(5, FLAT, 100, 6, 97);
        towedOn("5h/##", new int[] {ROTTEN, 100, 5, 9}, 11, false, 76, 1);
        towedOn("5h/##", new int[] {ROTTEN, 100, 6, 9}, 11, false, 94, 1);
        // A skirt does not keep its foot: 96 is left, or 77.
        towedOn("5h/##", new int[] {BERG, 100, 5, 0}, 11, true, 77, 1);
        towedOn("5h/##", new int[] {BERG, 100, 6, 0}, 11, true, 96, 1);
    }

    /** "a fifth of SIZE (rounded down) less": of 9, 10, 14, 15, 19 and 20, as they are melted. */
    private static void turnsOverByAFifth() {
        int[][] left = {{9, 8}, {10, 8}, {14, 12}, {15, 12}, {19, 16}, {20, 16}};
        for (int[] one : left) {
            oneDayOn(0, BERG, one[0] + 1, 0, one[1]);
        }
        // Warmth 9 turns it over each day, 1 melts: 9, 8; 7, 6; 5, 4; 3, 3: of 4 and fewer nothing is lost.
        towedOn("9w9w0h/####", new int[] {BERG, 10, 9, 0}, 1, false, 2, 5);
    }

    /** "FOOT is 9": in warmth 9 it turns over on the next day, in 8 on the second, in 4 on the third. */
    private static void footIsNineThen() {
        // 90, 72; 72 - 7, 52; 52 - 5, 38.
        towedOn("9h/##", new int[] {BERG, 100, 9, 0}, 2, false, 38, 3);
        // 91, 73; 73 - 6; 67 - 6, 49.
        towedOn("8h/##", new int[] {BERG, 100, 8, 0}, 2, false, 49, 3);
        towedOn("8h/##", new int[] {BERG, 100, 8, 0}, 3, false, 67, 2);
        // 79 - 4 is 75, over: 60; 60 - 3; 57 - 3; 54 - 3 is 51, over: 41. Its foot is 9, 5, 1, 0.
        // 59 - 3 is 56, over: 45; 45 - 2; 43 - 2: it has not turned over again.
        towedOn("4h/##", new int[] {BERG, 79, 4, 0}, 1, false, 41, 4);
        towedOn("4h/##", new int[] {BERG, 59, 4, 0}, 1, false, 41, 3);
        // Without warmth once and no more: 99, 80; 79; 78.
        towedOn("0h/##", new int[] {BERG, 100, 0, 0}, 2, false, 78, 3);
    }

    /** "a ROLLED does not" */
    private static void aRolledDoesNot() {
        for (int foot : new int[] {0, 4, 5, 6, 99}) {
            oneDayOn(5, ROLLED, 100, foot, 97);
        }
        oneDayOn(0, ROLLED, 100, 0, 99);
        oneDayOn(0, FLAT, 100, 0, 80);
    }

    // ---- A DAY: 3

    /** "Each n-th DAY of its tow a ROTTEN breaks", in six days: never by 7, once by 6, by 3 twice. */
    private static void breaksEachNthDay() {
        int[] water = {67, 75, 84, 84, 84, 94, 94, 94};
        for (int n = 2; n <= 9; n++) {
            towedOn("0h/##", new int[] {ROTTEN, 100, 99, n}, 1, false, water[n - 2], 6);
        }
        // In two days by 2 at the end, by 3 not yet; in one day by 2 not yet.
        towedOn("0h/##", new int[] {ROTTEN, 100, 99, 2}, 4, false, 88, 2);
        towedOn("0h/##", new int[] {ROTTEN, 100, 99, 3}, 4, false, 98, 2);
        towedOn("0h/##", new int[] {ROTTEN, 100, 99, 2}, 11, false, 99, 1);
        // The days of the tow, not those in one square: the second is in the second square.
        towedOn("00h/###", new int[] {ROTTEN, 100, 99, 2}, 11, false, 88, 2);
        towedOn("00h/###", new int[] {ROTTEN, 100, 99, 3}, 11, false, 98, 2);
        towedOn("000h/####", new int[] {ROTTEN, 100, 99, 3}, 11, false, 87, 3);
    }

    /** "a tenth of SIZE (rounded up) less": of 40, 41, 50 and 51 that are left on the second day. */
    private static void breaksByATenth() {
        int[][] left = {{40, 36}, {41, 36}, {49, 44}, {50, 45}, {51, 45}, {60, 54}, {61, 54}};
        for (int[] one : left) {
            towedOn("0h/##", new int[] {ROTTEN, one[0] + 2, 99, 2}, 2, false, one[1], 2);
        }
        // Behind the turning over: 51, over: 41; 40, a tenth of it.
        towedOn("00h/###", new int[] {ROTTEN, 52, 0, 2}, 11, false, 36, 2);
        // On one day 40, over: 32, a tenth of it: 28; the other way about 36 and 29 were left.
        towedOn("01h/###", new int[] {ROTTEN, 42, 1, 2}, 11, false, 28, 2);
    }

    // ---- TOWED

    /** "A step takes 1 + SIZE / (20 * k) DAYS, as ints": sizes just below and at each next day. */
    private static void daysOfAStep() {
        for (int tugs = 1; tugs <= 11; tugs++) {
            for (int more = 1; 20 * tugs * more <= 999 && more <= 4; more++) {
                int size = 20 * tugs * more;
                towed("0h/##", BERG, size, tugs, false, size - more - 1, more + 1);
                towed("0h/##", BERG, size - 1, tugs, false, size - 1 - more, more);
            }
        }
        towed("0h/##", BERG, 10, 1, false, 9, 1);
        towed("0h/##", BERG, 999, 1, false, 999 - 50, 50);
        towed("0h/##", BERG, 999, 11, false, 994, 5);
    }

    /** "by SIZE as the step begins": 20 take two days, 19 one. */
    private static void daysOfTheNextStep() {
        towed("00h/###", BERG, 20, 1, false, 17, 3);
        towed("00h/###", BERG, 21, 1, false, 18, 3);
        towed("00h/###", BERG, 22, 1, false, 18, 4);
        towed("00h/###", BERG, 19, 1, false, 17, 2);
        // It is 39 on the way, but the step has begun.
        towed("0h/##", BERG, 40, 1, false, 37, 3);
    }

    /** "one less if the CURRENT .. goes that way, one more if it goes against it": of all ways. */
    private static void currentOfEachWay() {
        String ways = "nesw";
        int[] fromSquare = {7, 3, 1, 5};
        for (int way = 0; way < 4; way++) {
            for (int current = 0; current < 4; current++) {
                StringBuilder text = new StringBuilder();
                for (int s = 0; s < 9; s++) {
                    text.append(s > 0 && s % 3 == 0 ? "/" : "").append(s == 4 ? "h" : "0");
                    text.append(s == fromSquare[way] ? ways.substring(current, current + 1) : "");
                }
                IceForCoast ice = Check.at(text.toString());
                ice.berg(BERG, fromSquare[way], 100, 99, 0);
                int days = current == way ? 5 : (current + 2) % 4 == way ? 7 : 6;
                String told = ways.charAt(way) + " by a current " + ways.charAt(current);
                Check.due(told + ": the way", ice.tow(0, 1, false, 10), way);
                Check.due(told + ": days", ice.tow(0, 1, false, 1), days);
                Check.due(told + ": water", ice.tow(0, 1, false, 0), 100 - days);
            }
        }
    }

    /** "(1 at least)" */
    private static void oneDayAtLeast() {
        towed("0eh/##", BERG, 10, 1, false, 9, 1);
        towed("0eh/##", BERG, 19, 1, false, 18, 1);
        towed("0eh/##", BERG, 20, 1, false, 19, 1);
        towed("0eh/##", BERG, 39, 1, false, 38, 1);
        towed("0eh/##", BERG, 40, 1, false, 38, 2);
        towed("0wh/##", BERG, 19, 1, false, 17, 2);
        towed("0wh/##", BERG, 20, 1, false, 17, 3);
        towed("0eh/##", BERG, 219, 11, false, 218, 1);
        towed("0eh/##", BERG, 220, 11, false, 219, 1);
        towed("0eh/##", BERG, 439, 11, false, 438, 1);
        towed("0eh/##", BERG, 440, 11, false, 438, 2);
    }

    private static void currentOfTheSquareThatItLeaves() {
        towed("00wh/###", BERG, 15, 1, false, 12, 3);
        towed("0w0h/###", BERG, 15, 1, false, 12, 3);
        towed("0w0wh/###", BERG, 15, 1, false, 11, 4);
        towed("00eh/###", BERG, 30, 1, false, 27, 3);
        // 29, 28; then one day of two; then 26 takes two days.
        towed("00e0h/####", BERG, 30, 1, false, 25, 5);
    }

    // ---- gone

    /** "SIZE is 0 at least", "If SIZE is 0, it is gone .. : WATER 0": ten in nine and in ten days. */
    private static void gone() {
        towed("0w0w0w0w0h/######", BERG, 10, 1, false, 1, 9);
        towed("0w0w0w0w0wh/######", BERG, 10, 1, false, 0, 10);
        towed("0w0w0w0w0wh/######", BERG, 11, 1, false, 1, 10);
        towed("0w0w0w0w0wh/######", FLAT, 10, 1, false, 0, 10);
        towed("0w0w0w0w0wh/######", FLAT, 11, 1, true, 1, 10);
    }

    /** "(no more DAYS)": six steps of two days each, the sixth of them behind its end. */
    private static void noMoreDays() {
        String sea = "0w0w0w0w0w0s/#####h";
        towed(sea, BERG, 10, 1, false, 0, 10);
        towed(sea, BERG, 11, 1, false, 0, 11);
        towed(sea, BERG, 12, 1, false, 1, 11);
        String against = "0w0w0w0w0w0n/#####h";
        towed(against, BERG, 10, 1, false, 0, 10);
        towed(against, BERG, 11, 1, false, 0, 11);
        towed(against, BERG, 12, 1, false, 0, 12);
        towed(against, BERG, 13, 1, false, 1, 12);
        IceForCoast ice = Check.at(against);
        ice.berg(BERG, 0, 10, 99, 0);
        Check.due("gone: steps of the way", ice.tow(0, 1, false, 3), 6);
        Check.due("gone: its last step", ice.tow(0, 1, false, 15), 2);
        Check.due("gone: no step behind it", ice.tow(0, 1, false, 16), -1);
    }

    /** A tenth of 1, rounded up, is 1: by 9 it is gone on the ninth day, where a plain one is not. */
    private static void goneByBreaking() {
        String sea = "0w0w0w0w0h/######";
        towedOn(sea, new int[] {BERG, 10, 99, 0}, 1, false, 1, 9);
        towedOn(sea, new int[] {ROTTEN, 10, 99, 9}, 1, false, 0, 9);
        towedOn(sea, new int[] {ROTTEN, 11, 99, 9}, 1, false, 1, 9);
        // 10 in warmth 0 by 8: 2 on the eighth day, 1 then, gone on the ninth.
        towedOn(sea, new int[] {ROTTEN, 10, 99, 8}, 1, false, 0, 9);
        towedOn(sea, new int[] {ROTTEN, 11, 99, 8}, 1, false, 1, 9);
    }

    // ---- GAIN

    /** "PRICE times WATER, less WAGE times TUGS times DAYS, less CLOTH with a SKIRT" at all edges of coin. */
    private static void gain() {
        for (int price : new int[] {1, 2, 8, 9}) {
            for (int wage : new int[] {0, 1, 8, 9}) {
                for (int cloth : new int[] {0, 1, 98, 99}) {
                    IceForCoast ice = Check.at("5h/##");
                    ice.berg(BERG, 0, 100, 99, 0);
                    ice.coin(0, price);
                    ice.coin(1, wage);
                    ice.coin(2, cloth);
                    String told = "price " + price + ", wage " + wage + ", cloth " + cloth;
                    // 94, 89 in two days of five tugs; with a skirt 96, 92.
                    Check.due(told + ": without", ice.tow(0, 5, false, 2), 89 * price - 10 * wage);
                    Check.due(told + ": with", ice.tow(0, 5, true, 2), 92 * price - 10 * wage - cloth);
                }
            }
        }
    }

    /** "GAIN (it may be below 0)": 9 of water for a wage of 9, 8 and 10 for it, and gone ice. */
    private static void gainBelowZero() {
        IceForCoast ice = Check.at("0h/##");
        ice.coin(0, 1);
        ice.coin(1, 9);
        ice.berg(BERG, 0, 10, 99, 0);
        ice.berg(BERG, 0, 11, 99, 0);
        ice.berg(BERG, 0, 10, 0, 0);
        Check.due("a gain of 0", ice.tow(0, 1, false, 2), 0);
        Check.due("a gain of 1", ice.tow(1, 1, false, 2), 1);
        Check.due("a gain of -1", ice.tow(2, 1, false, 2), -1);
        Check.due("the best of it is 0", ice.best(0, 2), 0);
        Check.due("the best of it is -1", ice.best(2, 2), -1);
        Check.due("by eleven", ice.tow(0, 11, false, 2), 9 - 99);
        Check.due("by eleven, with a skirt", ice.tow(0, 11, true, 2), 9 - 99 - 20);
        ice.coin(2, 99);
        Check.due("by eleven, with a dear skirt", ice.tow(0, 11, true, 2), 9 - 99 - 99);
        IceForCoast gone = Check.at("0w0w0w0w0wh/######");
        gone.berg(BERG, 0, 10, 99, 0);
        gone.coin(1, 9);
        gone.coin(2, 99);
        Check.due("gone by eleven, with a skirt", gone.tow(0, 11, true, 2), -9 * 11 * 10 - 99);
    }
}
