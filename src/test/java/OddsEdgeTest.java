/**
 * The edges of promises 19 to 21 and of what "Terms" tells of LET OFF, LINES and CLAIMS: of each
 * sentence that names a boundary the call just inside and the call just outside it, and that
 * refusals change nothing.
 */
public final class OddsEdgeTest {
    private static final int UNKNOWN = -101;
    private static final int OUTSIDE = -102;
    private static final int FULL = -104;
    private static final int MIN = Integer.MIN_VALUE;
    private static final int MAX = Integer.MAX_VALUE;

    public static void main(String[] args) {
        zeroAtLeastIsLeft();
        aThirdRoundedDown();
        aThirdOfWhatIsLeft();
        aFifthRoundedDown();
        aFifthOfTheMorning();
        notIfAlike();
        notWithoutADay();
        lowestTerms();
        cornersOfLetOff();
        refusedLetOff();
        tenLines();
        tenAgain();
        housesAndDaysOfLines();
        refusedLines();
        firstByDayThenByNumber();
        ofThatDayOrLater();
        noneThatCounts();
        sharesByDays();
        sharesByLines();
        edgesOfClaims();
        refusedClaims();
        Check.end();
    }

    // ---- promise 19: letOff

    /** What letOff() tells of size, days, melt and odds: above, below, whether to let off. */
    private static void let(int size, int days, int melt, int odds, long above, long below, int off) {
        IceForCoast ice = new IceForCoast();
        String told = "letOff(" + size + ", " + days + ", " + melt + ", " + odds + ", ";
        Check.due(told + "0)", ice.letOff(size, days, melt, odds, 0), above);
        Check.due(told + "1)", ice.letOff(size, days, melt, odds, 1), below);
        Check.due(told + "2)", ice.letOff(size, days, melt, odds, 2), off);
    }

    /** "each melts m (0 to 99; 0 at least is left)" */
    private static void zeroAtLeastIsLeft() {
        let(10, 1, 8, 0, 2, 1, 0);
        let(10, 1, 9, 0, 1, 1, 0);
        let(10, 1, 10, 0, 0, 1, 0);
        let(10, 1, 11, 0, 0, 1, 0);
        let(10, 1, 99, 9, 0, 1, 0);
        let(100, 1, 99, 9, 1, 1, 0);
        let(99, 1, 99, 9, 0, 1, 0);
        let(0, 1, 0, 9, 0, 1, 0);
        let(0, 9, 99, 9, 0, 1, 0);
        // On the second day, too: 20, 11, 2 and 20, 10, 0, and 19, 9, 0.
        let(20, 2, 9, 0, 2, 1, 0);
        let(20, 2, 10, 0, 0, 1, 0);
        let(19, 2, 10, 0, 0, 1, 0);
    }

    /** "a third (rounded down) is lost": of 5, 6, 8 and 9, by one tenth, where to let off is worse. */
    private static void aThirdRoundedDown() {
        let(5, 1, 0, 1, 49, 10, 0);
        let(6, 1, 0, 1, 29, 5, 0);
        let(8, 1, 0, 1, 39, 5, 0);
        let(9, 1, 0, 1, 87, 10, 0);
        // Of 1 and 2 nothing is lost, of 3 there is; but of 3 nothing is let off.
        let(1, 1, 0, 9, 1, 1, 0);
        let(2, 1, 0, 9, 2, 1, 0);
        let(3, 1, 0, 9, 3, 1, 1);
    }

    /** "it breaks behind that": behind the melting, 9 is 8, of which 2 are lost. */
    private static void aThirdOfWhatIsLeft() {
        let(9, 1, 1, 1, 39, 5, 0);
        let(10, 1, 1, 1, 87, 10, 0);
    }

    /** "a fifth of it (rounded down)": of 4 nothing, of 5 and 9 one, of 10 and 14 two, by nine tenths. */
    private static void aFifthRoundedDown() {
        let(4, 1, 0, 9, 4, 1, 1);
        let(5, 1, 0, 9, 41, 10, 0);
        let(9, 1, 0, 9, 8, 1, 1);
        let(10, 1, 0, 9, 8, 1, 1);
        let(14, 1, 0, 9, 12, 1, 1);
        let(15, 1, 0, 9, 12, 1, 1);
    }

    /** "Each morning": of 5 one and then 1 melts, which leaves 3; held are 4, of which one may be lost. */
    private static void aFifthOfTheMorning() {
        let(5, 1, 1, 9, 31, 10, 0);
        // 20 less 4 less 1 is 15; were 1 melted first, 16 were left.
        let(20, 1, 1, 9, 15, 1, 1);
    }

    /** "(not, if both are alike ..)": of 30 without melting 24 are left, or 25, 24 and 23 by 5, 6 and 7 tenths. */
    private static void notIfAlike() {
        let(30, 1, 0, 5, 25, 1, 0);
        let(30, 1, 0, 6, 24, 1, 0);
        let(30, 1, 0, 7, 24, 1, 1);
        // Of 100 by 10: 70 against 72 and 69.
        let(100, 1, 10, 6, 72, 1, 0);
        let(100, 1, 10, 7, 70, 1, 1);
        // Nothing breaks by 0 tenths: of 4 both are 4.
        let(4, 1, 0, 0, 4, 1, 0);
        let(4, 1, 0, 1, 4, 1, 1);
        let(5, 1, 0, 0, 5, 1, 0);
        // All is melted either way.
        let(50, 1, 50, 9, 0, 1, 0);
        let(51, 1, 50, 9, 1, 1, 0);
    }

    /** "(.. or no DAY is to go)" */
    private static void notWithoutADay() {
        let(100, 0, 10, 9, 100, 1, 0);
        let(100, 1, 10, 9, 70, 1, 1);
        let(4, 0, 0, 9, 4, 1, 0);
        let(4, 1, 0, 9, 4, 1, 1);
        let(0, 0, 0, 0, 0, 1, 0);
        let(999, 0, 99, 9, 999, 1, 0);
        IceForCoast ice = new IceForCoast();
        Check.due("one day", ice.letOff(100, 1, 10, 9, 2), 1);
        Check.due("no day behind one day", ice.letOff(100, 0, 10, 9, 2), 0);
    }

    /** "in lowest terms (above, below)": tenths that are whole, halves, fifths, and none that can be shortened. */
    private static void lowestTerms() {
        let(6, 1, 0, 5, 5, 1, 0);
        let(6, 1, 0, 2, 28, 5, 0);
        let(5, 1, 0, 5, 9, 2, 0);
        let(5, 1, 0, 3, 47, 10, 0);
        let(5, 1, 0, 0, 5, 1, 0);
        // Two days of 5 by one tenth: 5 is 4.9, 4 is 4 (let off); .9 * 4.9 and .1 * 4.
        let(5, 2, 0, 1, 481, 100, 0);
    }

    /** Each corner of size, days, melt and odds, as the second writing of the document answers it. */
    private static void cornersOfLetOff() {
        for (int size : new int[] {0, 1, 2, 3, 4, 5, 998, 999}) {
            for (int days : new int[] {0, 1, 8, 9}) {
                IceForCoast ice = new IceForCoast();
                IceModel model = new IceModel();
                for (int melt : new int[] {0, 1, 98, 99}) {
                    for (int odds : new int[] {0, 1, 8, 9}) {
                        for (int what = 0; what <= 2; what++) {
                            String told = "letOff(" + size + ", " + days + ", " + melt + ", " + odds + ", " + what + ")";
                            long want = model.letOff(size, days, melt, odds, what);
                            Check.due(told, ice.letOff(size, days, melt, odds, what), want);
                        }
                    }
                }
            }
        }
    }

    /** "OUTSIDE: size (0 to 999), days, melt, odds, what" */
    private static void refusedLetOff() {
        int[] most = {999, 9, 99, 9, 2};
        for (int which = 0; which < 5; which++) {
            IceForCoast ice = Check.at("0h/##");
            for (int wrong : new int[] {MIN, -1, most[which] + 1, MAX}) {
                int[] a = {100, 3, 5, 5, 0};
                a[which] = wrong;
                Check.refused(ice, "letOff, argument " + which + " of " + wrong,
                    () -> ice.letOff(a[0], a[1], a[2], a[3], a[4]), OUTSIDE);
            }
            for (int right : new int[] {0, most[which]}) {
                int[] a = {100, 3, 5, 5, 0};
                a[which] = right;
                long want = new IceModel().letOff(a[0], a[1], a[2], a[3], a[4]);
                String told = "letOff, argument " + which + " of " + right;
                Check.due(told, ice.letOff(a[0], a[1], a[2], a[3], a[4]), want);
            }
        }
    }

    // ---- promise 20: line

    private static IceForCoast withTwoBergs() {
        IceForCoast ice = Check.at("0h/00");
        ice.berg(0, 0, 100, 50, 0);
        ice.berg(1, 3, 200, 60, 0);
        return ice;
    }

    /** "LINES (10 at most)", "how many" */
    private static void tenLines() {
        IceForCoast ice = withTwoBergs();
        Check.due("no line", ice.count(2), 0);
        for (int i = 1; i <= 10; i++) {
            Check.due("line " + i, ice.line(i % 5, i % 2, 0), i);
            Check.due("lines", ice.count(2), i);
        }
        Check.refused(ice, "an eleventh", () -> ice.line(0, 0, 0), FULL);
        Check.refused(ice, "an eleventh, house 5", () -> ice.line(5, 0, 0), UNKNOWN);
        Check.refused(ice, "an eleventh, berg 2", () -> ice.line(0, 2, 0), UNKNOWN);
        Check.refused(ice, "an eleventh, day 100", () -> ice.line(0, 0, 100), OUTSIDE);
        Check.due("ten", ice.count(2), 10);
    }

    private static void tenAgain() {
        IceForCoast ice = withTwoBergs();
        for (int i = 1; i <= 9; i++) {
            ice.line(0, 0, 50);
        }
        ice.image();
        Check.due("a tenth", ice.line(1, 0, 40), 10);
        Check.due("an eleventh", ice.line(2, 0, 40), FULL);
        ice.restore();
        Check.due("nine again", ice.count(2), 9);
        Check.due("the tenth counts no more", ice.claims(1, 0, 41, 0, 0), 0);
        Check.due("a tenth again", ice.line(3, 0, 40), 10);
        Check.due("it counts", ice.claims(3, 0, 41, 0, 0), 1);
        Check.due("an eleventh again", ice.line(2, 0, 40), FULL);
        Check.write(ice, "0h/00");
        ice.sea();
        ice.berg(0, 0, 100, 50, 0);
        Check.due("a first in another sea", ice.line(0, 0, 0), 1);
    }

    /** "a house (0 to 4) had a line on a BERG on a DAY (0 to 99)" */
    private static void housesAndDaysOfLines() {
        for (int house : new int[] {0, 4}) {
            for (int day : new int[] {0, 1, 98, 99}) {
                IceForCoast ice = withTwoBergs();
                Check.due("line of house " + house + " on day " + day, ice.line(house, 1, day), 1);
                Check.due("on its day", ice.claims(house, 1, day, 0, 0), 0);
                Check.due("on the next day", ice.claims(house, 1, day + 1, 0, 0), 1);
                Check.due("of another berg", ice.claims(house, 0, day + 1, 0, 0), 0);
                Check.due("of another house", ice.claims(4 - house, 1, day + 1, 0, 0), 0);
            }
        }
    }

    /** "UNKNOWN: house (0 to 4), berg; OUTSIDE: day; FULL" */
    private static void refusedLines() {
        IceForCoast ice = withTwoBergs();
        for (int house : new int[] {MIN, -1, 5, MAX}) {
            Check.refused(ice, "line of house " + house, () -> ice.line(house, 0, 0), UNKNOWN);
            Check.refused(ice, "line of house " + house + " on day 100", () -> ice.line(house, 0, 100), UNKNOWN);
        }
        for (int berg : new int[] {MIN, -1, 2, 4, 5, MAX}) {
            Check.refused(ice, "line on " + berg, () -> ice.line(0, berg, 0), UNKNOWN);
            Check.refused(ice, "line on " + berg + " on day -1", () -> ice.line(0, berg, -1), UNKNOWN);
        }
        for (int day : new int[] {MIN, -1, 100, 999, MAX}) {
            Check.refused(ice, "line on day " + day, () -> ice.line(0, 0, day), OUTSIDE);
        }
        IceForCoast none = new IceForCoast();
        Check.refused(none, "line without a sea", () -> none.line(0, 0, 100), UNKNOWN);
        Check.refused(none, "claims without a sea", () -> none.claims(0, 0, 1000, 3, 2), UNKNOWN);
    }

    // ---- promise 21: claims

    private static void claim(IceForCoast ice, int house, int day, int rule, long above, long below) {
        String told = "claims(" + house + ", 0, " + day + ", " + rule + ", ";
        Check.due(told + "0)", ice.claims(house, 0, day, rule, 0), above);
        Check.due(told + "1)", ice.claims(house, 0, day, rule, 1), below);
    }

    /** "all, if its LINE is the first one (least DAY, then least number)" */
    private static void firstByDayThenByNumber() {
        IceForCoast ice = withTwoBergs();
        ice.line(0, 0, 7);
        ice.line(1, 0, 7);
        claim(ice, 0, 8, 0, 1, 1);
        claim(ice, 1, 8, 0, 0, 1);
        ice.line(2, 0, 8);
        claim(ice, 0, 9, 0, 1, 1);
        claim(ice, 2, 9, 0, 0, 1);
        ice.line(3, 0, 6);
        claim(ice, 0, 9, 0, 0, 1);
        claim(ice, 3, 9, 0, 1, 1);
        ice.line(4, 0, 6);
        claim(ice, 3, 9, 0, 1, 1);
        claim(ice, 4, 9, 0, 0, 1);
        // A line of its own that is not the first takes nothing from it, and one on the other berg neither.
        ice.line(3, 0, 9);
        ice.line(1, 1, 0);
        claim(ice, 3, 10, 0, 1, 1);
        claim(ice, 1, 10, 0, 0, 1);
    }

    /** "LINES of that DAY or later do not count": by each rule, a day ahead, on the day and behind. */
    private static void ofThatDayOrLater() {
        for (int rule = 0; rule <= 2; rule++) {
            IceForCoast ice = withTwoBergs();
            ice.line(0, 0, 5);
            claim(ice, 0, 4, rule, 0, 1);
            claim(ice, 0, 5, rule, 0, 1);
            claim(ice, 0, 6, rule, 1, 1);
            ice.line(1, 0, 3);
            // By 5 the first line does not count yet.
            claim(ice, 1, 3, rule, 0, 1);
            claim(ice, 1, 4, rule, 1, 1);
            claim(ice, 1, 5, rule, 1, 1);
            claim(ice, 0, 5, rule, 0, 1);
        }
        IceForCoast ice = withTwoBergs();
        ice.line(0, 0, 5);
        ice.line(1, 0, 3);
        claim(ice, 1, 6, 0, 1, 1);
        claim(ice, 1, 6, 1, 3, 4);
        claim(ice, 1, 6, 2, 1, 2);
        claim(ice, 0, 6, 1, 1, 4);
    }

    /** "0 by 1 without LINES that count", and of a house that has none */
    private static void noneThatCounts() {
        for (int rule = 0; rule <= 2; rule++) {
            IceForCoast ice = withTwoBergs();
            for (int day : new int[] {0, 1, 999}) {
                claim(ice, 0, day, rule, 0, 1);
            }
            ice.line(0, 1, 0);
            claim(ice, 0, 999, rule, 0, 1);
            ice.line(0, 0, 0);
            claim(ice, 0, 0, rule, 0, 1);
            claim(ice, 0, 1, rule, 1, 1);
            for (int house = 1; house <= 4; house++) {
                claim(ice, house, 0, rule, 0, 1);
                claim(ice, house, 1, rule, 0, 1);
                claim(ice, house, 999, rule, 0, 1);
            }
        }
    }

    /** "by DAYS from each of its LINES until it came, of those of all together" */
    private static void sharesByDays() {
        IceForCoast ice = withTwoBergs();
        ice.line(0, 0, 0);
        ice.line(1, 0, 99);
        ice.line(0, 0, 98);
        claim(ice, 0, 98, 1, 1, 1);
        // 99 and 1 of house 0 on day 99; 100 and 2 against 1 on day 100; 999 and 901 against 900.
        claim(ice, 0, 99, 1, 1, 1);
        claim(ice, 1, 99, 1, 0, 1);
        claim(ice, 0, 100, 1, 102, 103);
        claim(ice, 1, 100, 1, 1, 103);
        claim(ice, 0, 999, 1, 19, 28);
        claim(ice, 1, 999, 1, 9, 28);
        IceForCoast ten = withTwoBergs();
        for (int i = 0; i < 10; i++) {
            ten.line(i < 4 ? 0 : 1, 0, 0);
        }
        claim(ten, 0, 1, 1, 2, 5);
        claim(ten, 0, 999, 1, 2, 5);
        claim(ten, 1, 999, 1, 3, 5);
        claim(ten, 2, 999, 1, 0, 1);
    }

    /** "by how many LINES, of all" */
    private static void sharesByLines() {
        IceForCoast ice = withTwoBergs();
        ice.line(0, 0, 0);
        claim(ice, 0, 99, 2, 1, 1);
        ice.line(1, 0, 98);
        claim(ice, 0, 98, 2, 1, 1);
        claim(ice, 0, 99, 2, 1, 2);
        ice.line(1, 0, 98);
        claim(ice, 0, 99, 2, 1, 3);
        claim(ice, 1, 99, 2, 2, 3);
        ice.line(0, 0, 99);
        claim(ice, 0, 99, 2, 1, 3);
        claim(ice, 0, 100, 2, 1, 2);
        claim(ice, 1, 100, 2, 1, 2);
        ice.line(2, 1, 0);
        claim(ice, 1, 100, 2, 1, 2);
        claim(ice, 2, 100, 2, 0, 1);
    }

    /** "day (0 to 999), rule, part": the last ones that are told. */
    private static void edgesOfClaims() {
        IceForCoast ice = withTwoBergs();
        ice.line(4, 1, 99);
        Check.due("the greatest of all", ice.claims(4, 1, 999, 2, 1), 1);
        Check.due("the least of all", ice.claims(0, 0, 0, 0, 0), 0);
        for (int day : new int[] {MIN, -1, 1000, MAX}) {
            Check.refused(ice, "claims on day " + day, () -> ice.claims(4, 1, day, 2, 1), OUTSIDE);
        }
        for (int rule : new int[] {MIN, -1, 3, MAX}) {
            Check.refused(ice, "claims by rule " + rule, () -> ice.claims(4, 1, 999, rule, 1), OUTSIDE);
        }
        for (int part : new int[] {MIN, -1, 2, MAX}) {
            Check.refused(ice, "claims, part " + part, () -> ice.claims(4, 1, 999, 2, part), OUTSIDE);
        }
    }

    /** "UNKNOWN: house, berg; OUTSIDE: day (0 to 999), rule, part" */
    private static void refusedClaims() {
        IceForCoast ice = withTwoBergs();
        ice.line(0, 0, 5);
        for (int house : new int[] {MIN, -1, 5, MAX}) {
            Check.refused(ice, "claims of house " + house, () -> ice.claims(house, 0, 9, 0, 0), UNKNOWN);
            Check.refused(ice, "claims of house " + house + ", outside", () -> ice.claims(house, 0, 1000, 3, 2), UNKNOWN);
        }
        for (int berg : new int[] {MIN, -1, 2, 5, MAX}) {
            Check.refused(ice, "claims to " + berg, () -> ice.claims(0, berg, 9, 0, 0), UNKNOWN);
            Check.refused(ice, "claims to " + berg + ", outside", () -> ice.claims(0, berg, -1, -1, -1), UNKNOWN);
        }
        Check.due("of house 4 to berg 1", ice.claims(4, 1, 9, 0, 1), 1);
    }
}
