/**
 * The edges of promises 22 to 25 and of what "Terms" tells of an IMAGE and of refusals: of each
 * sentence that names a boundary the call just inside and the call just outside it, that refusals
 * change nothing, the image among it, and that all holds up to the 512th call.
 */
public final class ToldEdgeTest {
    private static final int NONE = -1;
    private static final int UNKNOWN = -101;
    private static final int OUTSIDE = -102;
    private static final int STATE = -103;
    private static final int FULL = -104;
    private static final int FAR_UNKNOWN = -100101;
    private static final int MIN = Integer.MIN_VALUE;
    private static final int MAX = Integer.MAX_VALUE;

    public static void main(String[] args) {
        noSeaNoImage();
        imageOfNoneAndOfFive();
        theLatestImage();
        noneWasKept();
        aSeaWasReadSince();
        whatAnImageKeeps();
        whatAnImageDoesNotKeep();
        bergsThatCameSince();
        linesThatCameSince();
        seasonOfThoseThatStay();
        restoreAgain();
        counts();
        digestOfNoSea();
        digestOfNoBergs();
        digestOfAllThatThereMayBe();
        digestWraps();
        refusalsChangeNothing();
        stateBehindUnknown();
        upToThe512thCall();
        Check.end();
    }

    private static IceForCoast withBergs(int many) {
        IceForCoast ice = Check.at("5h/11");
        for (int i = 0; i < many; i++) {
            ice.berg(0, i % 2 == 0 ? 0 : 3, 100 + i, 50 + i, 0);
        }
        return ice;
    }

    // ---- promises 22 and 23: image, restore

    /** "STATE: there is no SEA", "STATE: none was kept" */
    private static void noSeaNoImage() {
        IceForCoast ice = new IceForCoast();
        Check.refused(ice, "image() without a sea", ice::image, STATE);
        Check.refused(ice, "restore() without a sea", ice::restore, STATE);
        Check.write(ice, "5h/11");
        Check.refused(ice, "image() of a page", ice::image, STATE);
        ice.sea();
        Check.refused(ice, "restore() behind a refused image", ice::restore, STATE);
        Check.due("image() of a sea", ice.image(), 0);
        Check.due("restore() of it", ice.restore(), 0);
    }

    /** "how many BERGS" */
    private static void imageOfNoneAndOfFive() {
        for (int many = 0; many <= 5; many++) {
            IceForCoast ice = withBergs(many);
            Check.due("image() of " + many, ice.image(), many);
            Check.due("restore() of " + many, ice.restore(), many);
            Check.due("bergs", ice.count(1), many);
            for (int i = 0; i < many; i++) {
                Check.due("size of " + i, ice.about(i, 2), 100 + i);
                Check.due("foot of " + i, ice.about(i, 3), 50 + i);
            }
            Check.due("none behind", ice.about(many, 2), UNKNOWN);
        }
    }

    /** "(one; the latest)" */
    private static void theLatestImage() {
        IceForCoast ice = withBergs(1);
        ice.image();
        ice.change(0, 2, 200);
        ice.berg(0, 0, 300, 50, 0);
        Check.due("a second image", ice.image(), 2);
        ice.change(0, 2, 400);
        Check.due("restore()", ice.restore(), 2);
        Check.due("the latest size", ice.about(0, 2), 200);
        Check.due("and not one more before", ice.restore(), 2);
        Check.due("the latest size again", ice.about(0, 2), 200);
    }

    private static void noneWasKept() {
        IceForCoast ice = withBergs(3);
        Check.refused(ice, "restore() without an image", ice::restore, STATE);
        Check.due("the bergs stay", ice.count(1), 3);
        ice.image();
        Check.due("with an image", ice.restore(), 3);
    }

    /** "or a SEA was read since (of the same text, too)": a page, a refused sea, and a sea. */
    private static void aSeaWasReadSince() {
        IceForCoast ice = withBergs(2);
        ice.image();
        Check.write(ice, "5h/1");
        Check.due("a sea that is none", ice.sea(), STATE);
        Check.due("restore() behind it", ice.restore(), 2);
        Check.write(ice, "1");
        Check.due("restore() behind a page", ice.restore(), 2);
        Check.due("the same sea", ice.sea(), 4);
        Check.refused(ice, "restore() behind the same sea", ice::restore, STATE);
        Check.due("no bergs", ice.count(1), 0);
        for (int i = 0; i < 2; i++) {
            ice.berg(0, 0, 100, 50, 0);
        }
        Check.refused(ice, "restore() behind the same sea and bergs", ice::restore, STATE);
        Check.due("an image of it", ice.image(), 2);
        Check.due("restore() of that", ice.restore(), 2);
        Check.write(ice, "h1/11/11");
        ice.sea();
        Check.refused(ice, "restore() behind a third sea", ice::restore, STATE);
        Check.due("square of the third sea", ice.square(0, 0), 10);
    }

    /** "An IMAGE keeps SIZES, FEET, PRICE, WAGE, CLOTH, LINES": each on its own, and what is reckoned of it. */
    private static void whatAnImageKeeps() {
        int[][] changes = {{2, 10}, {2, 999}, {3, 0}, {3, 99}};
        for (int[] change : changes) {
            IceForCoast ice = withBergs(2);
            ice.line(0, 1, 5);
            ice.image();
            long before = ice.digest();
            int was = ice.change(1, change[0], change[1]);
            Check.holds("another digest()", ice.digest() != before);
            Check.due("restore()", ice.restore(), 2);
            Check.due("about(1, " + change[0] + ")", ice.about(1, change[0]), was);
            Check.due("digest() as it was", ice.digest(), before);
        }
        coinsOfAnImage(new int[] {3, 1, 20});
        coinsOfAnImage(new int[] {2, 2, 7});
    }

    private static void coinsOfAnImage(int[] kept) {
        int[][] coins = {{0, 1}, {0, 9}, {1, 0}, {1, 9}, {2, 0}, {2, 99}};
        for (int[] coin : coins) {
            IceForCoast ice = withBergs(2);
            for (int what = 0; what <= 2; what++) {
                ice.coin(what, kept[what]);
            }
            ice.image();
            long before = ice.digest();
            int gain = ice.tow(0, 1, true, 2);
            int was = ice.coin(coin[0], coin[1]);
            Check.holds("another gain", ice.tow(0, 1, true, 2) != gain);
            Check.due("restore()", ice.restore(), 2);
            Check.due("count(" + (4 + coin[0]) + ")", ice.count(4 + coin[0]), was);
            Check.due("the gain as it was", ice.tow(0, 1, true, 2), gain);
            Check.due("digest() as it was", ice.digest(), before);
        }
    }

    /** The page, how often a sea was read and came() was done are not of the image, nor is the sea. */
    private static void whatAnImageDoesNotKeep() {
        IceForCoast ice = withBergs(1);
        Check.write(ice, "ab");
        ice.came(0, 1, false, 50, 0);
        ice.image();
        Check.write(ice, "c");
        ice.came(0, 1, false, 50, 0);
        Check.due("restore()", ice.restore(), 1);
        Check.due("letters", ice.count(3), 3);
        Check.due("seas", ice.count(7), 1);
        Check.due("came() done", ice.count(8), 2);
        Check.due("blank()", ice.blank(), 3);
        Check.due("restore() behind blank()", ice.restore(), 1);
        Check.due("letters behind it", ice.count(3), 0);
    }

    /** "BERGS that came since are gone, with their LINES" */
    private static void bergsThatCameSince() {
        IceForCoast ice = withBergs(2);
        ice.image();
        ice.berg(2, 0, 300, 30, 3);
        ice.line(1, 2, 5);
        Check.due("the third's line", ice.claims(1, 2, 6, 0, 0), 1);
        Check.due("restore()", ice.restore(), 2);
        Check.due("no third: about", ice.about(2, 0), UNKNOWN);
        Check.due("no third: as", ice.as(2, 0), UNKNOWN);
        Check.due("no third: tow", ice.tow(2, 1, false, 0), FAR_UNKNOWN);
        Check.due("no third: line", ice.line(1, 2, 5), UNKNOWN);
        Check.due("no third: claims", ice.claims(1, 2, 6, 0, 0), UNKNOWN);
        Check.due("no third: season", ice.season(11, 3), NONE);
        Check.due("the second stays", ice.about(1, 2), 101);
        Check.due("no line", ice.count(2), 0);
        Check.due("another third", ice.berg(4, 3, 400, 40, 0), 2);
        Check.due("its own kind", ice.about(2, 0), 4);
        Check.due("its own n", ice.about(2, 4), 0);
        Check.due("nobody's line", ice.claims(1, 2, 6, 0, 0), 0);
        Check.due("a first line", ice.line(0, 2, 5), 1);
    }

    private static void linesThatCameSince() {
        IceForCoast ice = withBergs(2);
        ice.line(0, 0, 5);
        ice.line(1, 1, 6);
        ice.image();
        ice.line(2, 0, 3);
        ice.line(3, 1, 4);
        Check.due("whose since", ice.claims(2, 0, 9, 0, 0), 1);
        Check.due("restore()", ice.restore(), 2);
        Check.due("two lines", ice.count(2), 2);
        Check.due("whose again", ice.claims(0, 0, 9, 0, 0), 1);
        Check.due("no more whose", ice.claims(2, 0, 9, 0, 0), 0);
        Check.due("of berg 1", ice.claims(1, 1, 9, 2, 1), 1);
        Check.due("a third line", ice.line(4, 0, 1), 3);
        // An image of three lines, behind an image of two.
        ice.image();
        ice.line(4, 0, 0);
        ice.restore();
        Check.due("three lines", ice.count(2), 3);
    }

    /** A season of more bergs leaves nothing in that of those which are there behind restore(). */
    private static void seasonOfThoseThatStay() {
        for (int many = 0; many <= 4; many++) {
            IceForCoast ice = withBergs(many);
            ice.image();
            int[] before = new int[6];
            for (int what = 0; what <= 5; what++) {
                before[what] = ice.season(11, what);
            }
            int more = ice.more(3);
            for (int i = many; i < 5; i++) {
                ice.berg(0, 0, 999, 99, 0);
                Check.holds("a season of one more", ice.season(11, 0) > before[0]);
            }
            ice.restore();
            for (int what = 0; what <= 5; what++) {
                Check.due("season of " + many + ", " + what, ice.season(11, what), before[what]);
            }
            Check.due("one more for " + many, ice.more(3), more);
        }
    }

    private static void restoreAgain() {
        IceForCoast ice = withBergs(4);
        for (int i = 0; i < 10; i++) {
            ice.line(i % 5, i % 4, i);
        }
        Check.due("image()", ice.image(), 4);
        long before = ice.digest();
        for (int times = 0; times < 3; times++) {
            ice.berg(1, 0, 500, 1, 0);
            ice.change(times, 2, 10);
            ice.coin(times, 1);
            Check.due("restore(), once more", ice.restore(), 4);
            Check.due("digest(), once more", ice.digest(), before);
        }
    }

    // ---- promise 24: count

    private static void counts() {
        IceForCoast ice = withBergs(3);
        ice.line(0, 0, 0);
        ice.line(0, 0, 0);
        Check.write(ice, "abcde");
        ice.coin(0, 7);
        ice.coin(1, 8);
        ice.coin(2, 99);
        ice.came(0, 1, false, 0, 0);
        int[] told = {4, 3, 2, 5, 7, 8, 99, 1, 1};
        for (int what = 0; what <= 8; what++) {
            Check.due("count(" + what + ")", ice.count(what), told[what]);
        }
        for (int what : new int[] {MIN, -1, 9, 10, MAX}) {
            Check.refused(ice, "count(" + what + ")", () -> ice.count(what), OUTSIDE);
            IceForCoast none = new IceForCoast();
            Check.refused(none, "count(" + what + ") without a sea", () -> none.count(what), OUTSIDE);
        }
        for (int times = 2; times <= 5; times++) {
            ice.blank();
            Check.write(ice, "5h/11");
            ice.sea();
            Check.due("seas", ice.count(7), times);
            Check.due("bergs of another sea", ice.count(1), 0);
            Check.due("lines of another sea", ice.count(2), 0);
        }
    }

    // ---- promise 25: digest

    private static long fold(long h, long... numbers) {
        long folded = h;
        for (long number : numbers) {
            folded = 31 * folded + number;
        }
        return folded;
    }

    private static void digestOfNoSea() {
        IceForCoast ice = new IceForCoast();
        Check.due("digest() of nothing", ice.digest(), fold(569, 0, 0, 0, 0, 3, 1, 20, 0, 0));
        for (int many = 8; many <= 64; many += 8) {
            ice.letters(0x7E7D7C0403020131L);
        }
        long h = 569;
        for (int i = 0; i < 8; i++) {
            h = fold(h, 0x31, 1, 2, 3, 4, 0x7C, 0x7D, 0x7E);
        }
        Check.due("digest() of a full page", ice.digest(), fold(h, 0, 0, 0, 64, 3, 1, 20, 0, 0));
        ice.coin(0, 9);
        Check.due("digest() of another price", ice.digest(), fold(h, 0, 0, 0, 64, 9, 1, 20, 0, 0));
        ice.blank();
        Check.due("digest() of none again", ice.digest(), fold(569, 0, 0, 0, 0, 9, 1, 20, 0, 0));
    }

    private static void digestOfNoBergs() {
        IceForCoast ice = Check.at("5nh/#0w");
        long h = fold(569, 5, 0, 1, 10, -1, 0, 11, -1, 2, 0, 3, 1);
        Check.due("digest() of no bergs", ice.digest(), fold(h, 0, -1, -1, -1, -1, -1, 4, 0, 0, 0, 3, 1, 20, 1, 0));
    }

    /** Five bergs, two of them without a way, ten lines, 64 letters: all by what the calls tell. */
    private static void digestOfAllThatThereMayBe() {
        IceForCoast ice = Check.at("01n2e3s4w#/#5n6e7s8w9/#00000/11111#/222#h#");
        int[] from = {1, 24, 26, 13, 11};
        for (int i = 0; i < 5; i++) {
            Check.due("berg " + i, ice.berg(i, from[i], 999 - 200 * i, 99 - 20 * i, i == 2 ? 2 : 0), i);
        }
        for (int i = 0; i < 10; i++) {
            ice.line(i % 5, 4 - i % 5, 11 * i);
        }
        for (int i = 0; i < 8; i++) {
            ice.letters(0x7E31300102030405L + i);
        }
        ice.came(0, 1, true, 500, 0);
        Check.holds("with a way", ice.ways(0) > 0 && ice.ways(3) > 0 && ice.ways(4) > 0);
        Check.due("without a way", ice.ways(1) + ice.ways(2), 0);
        long h = 569;
        for (int square = 0; square < 30; square++) {
            h = fold(h, ice.square(square, 0), ice.square(square, 1), ice.square(square, 2));
        }
        for (int berg = 0; berg < 5; berg++) {
            for (int what = 0; what <= 4; what++) {
                h = fold(h, ice.about(berg, what));
            }
            h = fold(h, ice.ways(berg));
            for (int what = 0; what <= 3; what++) {
                h = fold(h, ice.tow(berg, 3, false, what));
            }
            h = fold(h, ice.best(berg, 0), ice.best(berg, 1), ice.best(berg, 2));
        }
        for (int what = 0; what <= 5; what++) {
            h = fold(h, ice.season(5, what));
        }
        for (int i = 0; i < 10; i++) {
            h = fold(h, i % 5, 4 - i % 5, 11 * i);
        }
        for (int i = 0; i < 8; i++) {
            h = fold(h, 5 + i, 4, 3, 2, 1, 0x30, 0x31, 0x7E);
        }
        Check.due("digest() of all", ice.digest(), fold(h, 30, 5, 10, 64, 3, 1, 20, 1, 1));
    }

    /** "(as longs, wrapping)": of a page of 11 letters h is below 2 to the 63, of 12 and more it wraps. */
    private static void digestWraps() {
        for (int many = 0; many <= 20; many++) {
            IceForCoast ice = new IceForCoast();
            java.math.BigInteger h = java.math.BigInteger.valueOf(569);
            for (int i = 0; i < many; i++) {
                ice.letters(126);
                h = h.multiply(java.math.BigInteger.valueOf(31)).add(java.math.BigInteger.valueOf(126));
            }
            for (int number : new int[] {0, 0, 0, many, 3, 1, 20, 0, 0}) {
                h = h.multiply(java.math.BigInteger.valueOf(31)).add(java.math.BigInteger.valueOf(number));
            }
            Check.due("digest() of " + many + " letters", ice.digest(), h.longValue());
        }
    }

    // ---- refusals

    /** "they change nothing": each refusal that there is, at an object that is full, and its image behind all. */
    private static void refusalsChangeNothing() {
        IceForCoast ice = withBergs(5);
        for (int i = 0; i < 10; i++) {
            ice.line(i % 5, i % 5, i);
        }
        Check.write(ice, "5h/1#x");
        for (int i = 0; i < 20; i++) {
            ice.came(0, 1, false, 0, 0);
        }
        ice.image();
        long kept = ice.digest();
        ice.change(0, 2, 77);
        ice.change(1, 3, 7);
        ice.coin(0, 9);
        ice.coin(1, 8);
        ice.coin(2, 7);
        refusedOfFull(ice);
        refusedOfUnknown(ice);
        Check.due("letters stay", ice.blank(), 6);
        Check.write(ice, "5h/1#x");
        Check.due("the image stays", ice.restore(), 5);
        Check.due("digest() of the image", ice.digest(), kept);
    }

    private static void refusedOfFull(IceForCoast ice) {
        Check.refused(ice, "letters of 127", () -> ice.letters(127), OUTSIDE);
        Check.refused(ice, "letters behind a 0", () -> ice.letters(0x310031), OUTSIDE);
        Check.refused(ice, "sea()", ice::sea, STATE);
        Check.refused(ice, "square(4, 0)", () -> ice.square(4, 0), UNKNOWN);
        Check.refused(ice, "square(0, 3)", () -> ice.square(0, 3), OUTSIDE);
        Check.refused(ice, "a berg of kind 5", () -> ice.berg(5, 0, 10, 0, 0), OUTSIDE);
        Check.refused(ice, "a berg in the harbour", () -> ice.berg(0, 1, 10, 0, 0), UNKNOWN);
        Check.refused(ice, "a berg of size 9", () -> ice.berg(0, 0, 9, 0, 0), OUTSIDE);
        Check.refused(ice, "a sixth berg", () -> ice.berg(0, 0, 10, 0, 0), FULL);
        Check.refused(ice, "as(0, 5)", () -> ice.as(0, 5), OUTSIDE);
        Check.refused(ice, "as(0, 4)", () -> ice.as(0, 4), NONE);
        Check.refused(ice, "about(0, 5)", () -> ice.about(0, 5), OUTSIDE);
        Check.refused(ice, "change(0, 2, 9)", () -> ice.change(0, 2, 9), OUTSIDE);
        Check.refused(ice, "change(0, 3, 100)", () -> ice.change(0, 3, 100), OUTSIDE);
        Check.refused(ice, "change(0, 1, 50)", () -> ice.change(0, 1, 50), OUTSIDE);
        Check.refused(ice, "coin(0, 0)", () -> ice.coin(0, 0), OUTSIDE);
        Check.refused(ice, "coin(3, 1)", () -> ice.coin(3, 1), OUTSIDE);
        Check.refused(ice, "season(12, 0)", () -> ice.season(12, 0), OUTSIDE);
        Check.refused(ice, "season(11, 6)", () -> ice.season(11, 6), OUTSIDE);
        Check.refused(ice, "more(11)", () -> ice.more(11), OUTSIDE);
        Check.refused(ice, "drawn from -1", () -> ice.drawn(0, 1, false, -1, 0), OUTSIDE);
        Check.refused(ice, "came of 1000", () -> ice.came(0, 1, false, 1000, 0), OUTSIDE);
        Check.refused(ice, "came a 21st time", () -> ice.came(0, 1, false, 0, 0), STATE);
        Check.refused(ice, "letOff of 1000", () -> ice.letOff(1000, 0, 0, 0, 0), OUTSIDE);
        Check.refused(ice, "a line on day 100", () -> ice.line(0, 0, 100), OUTSIDE);
        Check.refused(ice, "an eleventh line", () -> ice.line(0, 0, 0), FULL);
        Check.refused(ice, "claims on day 1000", () -> ice.claims(0, 0, 1000, 0, 0), OUTSIDE);
        Check.refused(ice, "count(9)", () -> ice.count(9), OUTSIDE);
    }

    private static void refusedOfUnknown(IceForCoast ice) {
        Check.refused(ice, "as(5, 0)", () -> ice.as(5, 0), UNKNOWN);
        Check.refused(ice, "about(5, 0)", () -> ice.about(5, 0), UNKNOWN);
        Check.refused(ice, "change(5, 2, 50)", () -> ice.change(5, 2, 50), UNKNOWN);
        Check.refused(ice, "tow(5, ..)", () -> ice.tow(5, 1, false, 0), FAR_UNKNOWN);
        Check.refused(ice, "ways(5)", () -> ice.ways(5), UNKNOWN);
        Check.refused(ice, "best(5, 0)", () -> ice.best(5, 0), FAR_UNKNOWN);
        Check.refused(ice, "drawn(5, ..)", () -> ice.drawn(5, 1, false, 0, 0), UNKNOWN);
        Check.refused(ice, "came(5, ..)", () -> ice.came(5, 1, false, 0, 0), UNKNOWN);
        Check.refused(ice, "line(5, ..)", () -> ice.line(5, 0, 0), UNKNOWN);
        Check.refused(ice, "line(0, 5, ..)", () -> ice.line(0, 5, 0), UNKNOWN);
        Check.refused(ice, "claims(5, ..)", () -> ice.claims(5, 0, 0, 0, 0), UNKNOWN);
        Check.refused(ice, "claims(0, 5, ..)", () -> ice.claims(0, 5, 0, 0, 0), UNKNOWN);
    }

    /** "Without a SEA: STATE, where it is told, behind UNKNOWN." */
    private static void stateBehindUnknown() {
        IceForCoast ice = new IceForCoast();
        Check.refused(ice, "sea()", ice::sea, STATE);
        Check.refused(ice, "image()", ice::image, STATE);
        Check.refused(ice, "restore()", ice::restore, STATE);
        Check.refused(ice, "season(0, 6)", () -> ice.season(0, 6), STATE);
        Check.refused(ice, "more(11)", () -> ice.more(11), STATE);
        Check.refused(ice, "came()", () -> ice.came(0, 1, false, 0, 0), UNKNOWN);
        Check.refused(ice, "came(), all wrong", () -> ice.came(0, 0, false, -1, 3), UNKNOWN);
        // What needs no sea is answered.
        Check.due("letOff()", ice.letOff(5, 0, 0, 0, 0), 5);
        Check.due("coin()", ice.coin(2, 99), 20);
        Check.due("count(6)", ice.count(6), 99);
    }

    /** "at most 512 calls": the last of them is answered as the first is. */
    private static void upToThe512thCall() {
        IceForCoast ice = new IceForCoast();
        Check.write(ice, "111111/111111/111111/111111/11111h");
        Check.due("sea()", ice.sea(), 30);
        Check.due("berg()", ice.berg(2, 0, 999, 50, 3), 0);
        Check.due("image()", ice.image(), 1);
        int done = 5 + 3;
        long first = ice.digest();
        done++;
        int count = 0;
        while (done + 4 <= 510) {
            ice.change(0, 2, 10 + count);
            ice.coin(1, count % 10);
            ice.season(11, 0);
            ice.restore();
            done += 4;
            count++;
        }
        Check.due("digest()", ice.digest(), first);
        done++;
        while (done < 512) {
            Check.due("call " + (done + 1), ice.about(0, 2), 999);
            done++;
        }
    }
}
