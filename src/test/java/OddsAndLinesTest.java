/** Promises 19 to 21: what to let off, lines, claims. */
public final class OddsAndLinesTest {
    private static final int UNKNOWN = -101;
    private static final int OUTSIDE = -102;
    private static final int FULL = -104;
    private static final int MAX = Integer.MAX_VALUE;

    public static void main(String[] args) {
        letOff();
        letOffAnew();
        refusedLetOff();
        line();
        claimsOfTheFirst();
        claimsByDays();
        claimsByLines();
        refusedClaims();
        Check.end();
    }

    private static void water(int[] asked, long above, long below, int off) {
        IceForCoast ice = new IceForCoast();
        String told = "letOff(" + asked[0] + ", " + asked[1] + ", " + asked[2] + ", " + asked[3] + ", ";
        Check.due(told + "0)", ice.letOff(asked[0], asked[1], asked[2], asked[3], 0), above);
        Check.due(told + "1)", ice.letOff(asked[0], asked[1], asked[2], asked[3], 1), below);
        Check.due(told + "2)", ice.letOff(asked[0], asked[1], asked[2], asked[3], 2), off);
    }

    private static void letOff() {
        water(new int[] {300, 0, 5, 9}, 300, 1, 0);
        water(new int[] {0, 9, 0, 9}, 0, 1, 0);
        water(new int[] {999, 9, 0, 0}, 999, 1, 0);
        water(new int[] {100, 1, 99, 0}, 1, 1, 0);
        water(new int[] {50, 9, 99, 9}, 0, 1, 0);
        // Held: 90, and 60 by three tenths: 81. Let off: 100 - 20 - 10.
        water(new int[] {100, 1, 10, 3}, 81, 1, 0);
        // By nine tenths held is 63.
        water(new int[] {100, 1, 10, 9}, 70, 1, 1);
        // By five tenths 75, by six 72, by seven 69, against 70.
        water(new int[] {100, 1, 10, 6}, 72, 1, 0);
        water(new int[] {100, 1, 10, 7}, 70, 1, 1);
        // 30 held by six tenths are 24, as many as are left of 30 - 6: alike.
        water(new int[] {30, 1, 0, 6}, 24, 1, 0);
        // 98 held by one tenth: 98 less 3.2.
        water(new int[] {98, 1, 0, 1}, 474, 5, 0);
        // A fifth of 4 is nothing, a third of it is 1: to let off costs nothing.
        water(new int[] {4, 1, 0, 1}, 4, 1, 1);
        water(new int[] {2, 1, 0, 9}, 2, 1, 0);
        water(new int[] {300, 4, 5, 3}, 363371, 2000, 0);
        twoDays();
    }

    private static void twoDays() {
        // The last day by five tenths, 0 melts: of 30 held 25, off 24; of 20 held 17, off 16; of 24 held 20, off 20.
        // The first: held (25 + 17) / 2 = 21, off 20.
        water(new int[] {30, 2, 0, 5}, 21, 1, 0);
        // By nine tenths: of 30 off 24 (held 21); of 24 off 20; of 20 off 16 (held 14.6); held (9 * 16 + 24) / 10.
        water(new int[] {30, 2, 0, 9}, 20, 1, 1);
    }

    private static void letOffAnew() {
        IceForCoast ice = new IceForCoast();
        Check.due("let off", ice.letOff(100, 1, 10, 9, 2), 1);
        Check.due("no day is to go: not", ice.letOff(100, 0, 10, 9, 2), 0);
        Check.due("of another size", ice.letOff(30, 1, 0, 5, 0), 25);
    }

    private static void refusedLetOff() {
        IceForCoast ice = new IceForCoast();
        int[] least = {0, 0, 0, 0, 0};
        int[] most = {999, 9, 99, 9, 2};
        for (int which = 0; which < 5; which++) {
            for (int wrong : new int[] {least[which] - 1, most[which] + 1, MAX, Integer.MIN_VALUE}) {
                int[] a = {100, 3, 5, 5, 0};
                a[which] = wrong;
                String told = "letOff, argument " + which + " is " + wrong;
                Check.due(told, ice.letOff(a[0], a[1], a[2], a[3], a[4]), OUTSIDE);
            }
            int[] a = {100, 3, 5, 5, 0};
            a[which] = most[which];
            Check.holds("letOff of the most", ice.letOff(a[0], a[1], a[2], a[3], a[4]) >= 0);
            a[which] = least[which];
            Check.holds("letOff of the least", ice.letOff(a[0], a[1], a[2], a[3], a[4]) >= 0);
        }
    }

    private static void line() {
        IceForCoast none = new IceForCoast();
        Check.due("line without a sea", none.line(0, 0, 0), UNKNOWN);
        IceForCoast ice = Check.at("1h/11");
        ice.berg(0, 0, 100, 50, 0);
        Check.due("line(5, 0, 0)", ice.line(5, 0, 0), UNKNOWN);
        Check.due("line(-1, 0, 0)", ice.line(-1, 0, 0), UNKNOWN);
        Check.due("line(0, 1, 0)", ice.line(0, 1, 0), UNKNOWN);
        Check.due("line(0, -1, 0)", ice.line(0, -1, 0), UNKNOWN);
        Check.due("line(0, 0, -1)", ice.line(0, 0, -1), OUTSIDE);
        Check.due("line(0, 0, 100)", ice.line(0, 0, 100), OUTSIDE);
        Check.due("line: unknown first", ice.line(0, 1, 100), UNKNOWN);
        Check.due("no line yet", ice.count(2), 0);
        for (int i = 0; i < 10; i++) {
            Check.due("line " + i, ice.line(i % 5, 0, i == 0 ? 99 : 0), i + 1);
        }
        Check.due("line 10", ice.line(0, 0, 0), FULL);
        Check.due("line 10: outside first", ice.line(0, 0, 100), OUTSIDE);
        Check.due("line 10: unknown first", ice.line(5, 0, 0), UNKNOWN);
        Check.due("ten lines", ice.count(2), 10);
    }

    private static IceForCoast withLines() {
        IceForCoast ice = Check.at("1h/11");
        ice.berg(0, 0, 100, 50, 0);
        ice.berg(0, 0, 100, 50, 0);
        ice.line(0, 0, 6);
        ice.line(1, 0, 4);
        ice.line(2, 0, 4);
        ice.line(1, 0, 10);
        ice.line(3, 1, 0);
        return ice;
    }

    private static void claim(IceForCoast ice, int[] asked, long above, long below) {
        String told = "claims(" + asked[0] + ", " + asked[1] + ", " + asked[2] + ", " + asked[3] + ", ";
        Check.due(told + "0)", ice.claims(asked[0], asked[1], asked[2], asked[3], 0), above);
        Check.due(told + "1)", ice.claims(asked[0], asked[1], asked[2], asked[3], 1), below);
    }

    private static void claimsOfTheFirst() {
        IceForCoast ice = withLines();
        int[] firsts = {0, 1, 0, 0, 0};
        for (int house = 0; house < 5; house++) {
            claim(ice, new int[] {house, 0, 20, 0}, firsts[house], 1);
        }
        claim(ice, new int[] {3, 1, 1, 0}, 1, 1);
        claim(ice, new int[] {3, 1, 0, 0}, 0, 1);
        claim(ice, new int[] {1, 0, 5, 0}, 1, 1);
        claim(ice, new int[] {1, 0, 4, 0}, 0, 1);
        IceForCoast later = Check.at("1h/11");
        later.berg(0, 0, 100, 50, 0);
        later.line(4, 0, 7);
        later.line(2, 0, 7);
        claim(later, new int[] {4, 0, 8, 0}, 1, 1);
        claim(later, new int[] {2, 0, 8, 0}, 0, 1);
        later.line(2, 0, 6);
        claim(later, new int[] {4, 0, 8, 0}, 0, 1);
        claim(later, new int[] {2, 0, 8, 0}, 1, 1);
    }

    private static void claimsByDays() {
        IceForCoast ice = withLines();
        // On day 20: 14, 16 and 10, 16: 56 in all.
        claim(ice, new int[] {0, 0, 20, 1}, 1, 4);
        claim(ice, new int[] {1, 0, 20, 1}, 13, 28);
        claim(ice, new int[] {2, 0, 20, 1}, 2, 7);
        claim(ice, new int[] {3, 0, 20, 1}, 0, 1);
        // On day 10 the line of that day does not count: 4, 6, 6.
        claim(ice, new int[] {1, 0, 10, 1}, 3, 8);
        claim(ice, new int[] {1, 0, 11, 1}, 2, 5);
        claim(ice, new int[] {1, 0, 4, 1}, 0, 1);
        claim(ice, new int[] {3, 1, 999, 1}, 1, 1);
        claim(ice, new int[] {0, 1, 0, 1}, 0, 1);
    }

    private static void claimsByLines() {
        IceForCoast ice = withLines();
        claim(ice, new int[] {0, 0, 20, 2}, 1, 4);
        claim(ice, new int[] {1, 0, 20, 2}, 1, 2);
        claim(ice, new int[] {4, 0, 20, 2}, 0, 1);
        claim(ice, new int[] {1, 0, 10, 2}, 1, 3);
        claim(ice, new int[] {1, 0, 6, 2}, 1, 2);
        claim(ice, new int[] {0, 0, 6, 2}, 0, 1);
        claim(ice, new int[] {1, 0, 0, 2}, 0, 1);
    }

    private static void refusedClaims() {
        IceForCoast ice = withLines();
        Check.due("claims(5, ..)", ice.claims(5, 0, 20, 0, 0), UNKNOWN);
        Check.due("claims(-1, ..)", ice.claims(-1, 0, 20, 0, 0), UNKNOWN);
        Check.due("claims(0, 2, ..)", ice.claims(0, 2, 20, 0, 0), UNKNOWN);
        Check.due("claims(0, -1, ..)", ice.claims(0, -1, -1, 9, 9), UNKNOWN);
        Check.due("claims on day -1", ice.claims(0, 0, -1, 0, 0), OUTSIDE);
        Check.due("claims on day 1000", ice.claims(0, 0, 1000, 0, 0), OUTSIDE);
        Check.due("claims by rule 3", ice.claims(0, 0, 20, 3, 0), OUTSIDE);
        Check.due("claims by rule -1", ice.claims(0, 0, 20, -1, 0), OUTSIDE);
        Check.due("claims: part 2", ice.claims(0, 0, 20, 0, 2), OUTSIDE);
        Check.due("claims: part -1", ice.claims(0, 0, 20, 0, -1), OUTSIDE);
        Check.due("claims without a sea", new IceForCoast().claims(0, 0, 0, 0, 0), UNKNOWN);
    }
}
