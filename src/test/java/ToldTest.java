/** Promises 22 to 25: an image, going on from it, counts, the digest. */
public final class ToldTest {
    private static final int OUTSIDE = -102;
    private static final int STATE = -103;

    public static void main(String[] args) {
        image();
        restore();
        imagesAndSeas();
        count();
        digestWithoutSea();
        digest();
        digestOfRefusals();
        Check.end();
    }

    private static void image() {
        IceForCoast ice = new IceForCoast();
        Check.due("image() without a sea", ice.image(), STATE);
        Check.due("restore() without a sea", ice.restore(), STATE);
        Check.write(ice, "1h/11");
        ice.sea();
        Check.due("restore() without an image", ice.restore(), STATE);
        Check.due("image() without bergs", ice.image(), 0);
        ice.berg(0, 0, 100, 50, 0);
        Check.due("restore() without bergs", ice.restore(), 0);
        Check.due("the berg is gone", ice.count(1), 0);
        ice.berg(3, 2, 200, 60, 0);
        ice.berg(2, 2, 200, 60, 7);
        Check.due("image() of two", ice.image(), 2);
    }

    private static void restore() {
        IceForCoast ice = Check.at("1h/11");
        ice.berg(0, 0, 100, 50, 0);
        ice.berg(2, 2, 300, 70, 4);
        ice.coin(0, 5);
        ice.coin(1, 6);
        ice.coin(2, 7);
        ice.line(3, 1, 8);
        Check.due("image()", ice.image(), 2);
        long before = ice.digest();
        for (int times = 0; times < 2; times++) {
            spoil(ice);
            Check.holds("all is another", ice.digest() != before);
            Check.due("restore()", ice.restore(), 2);
            Check.due("all is as it was", ice.digest(), before);
        }
        Check.due("size", ice.about(1, 2), 300);
        Check.due("foot", ice.about(1, 3), 70);
        Check.due("price", ice.count(4), 5);
        Check.due("wage", ice.count(5), 6);
        Check.due("cloth", ice.count(6), 7);
        Check.due("lines", ice.count(2), 1);
        Check.due("whose", ice.claims(3, 1, 9, 0, 0), 1);
        ice.line(1, 1, 2);
        ice.change(0, 2, 55);
        Check.due("a later image", ice.image(), 2);
        spoil(ice);
        ice.restore();
        Check.due("the latest counts: lines", ice.count(2), 2);
        Check.due("the latest counts: size", ice.about(0, 2), 55);
        notKept(ice);
    }

    private static void spoil(IceForCoast ice) {
        ice.change(0, 2, 11);
        ice.change(1, 3, 1);
        ice.coin(0, 1);
        ice.coin(1, 1);
        ice.coin(2, 1);
        ice.line(0, 0, 0);
        ice.berg(1, 0, 99, 9, 0);
        ice.line(0, 2, 0);
    }

    private static void notKept(IceForCoast ice) {
        Check.write(ice, "xyz");
        ice.came(0, 1, false, 0, 0);
        Check.due("restore()", ice.restore(), 2);
        Check.due("the page is not of the image", ice.count(3), 3);
        Check.due("came() is not of the image", ice.count(8), 1);
        Check.due("a berg comes behind the two", ice.berg(4, 3, 77, 7, 0), 2);
        Check.due("it is the new one", ice.about(2, 0), 4);
        Check.due("and its own", ice.about(2, 2), 77);
        Check.due("best() is of the new one", ice.best(2, 1), 0);
        Check.due("gain is of the new one", ice.best(2, 2), newGain());
    }

    private static int newGain() {
        IceForCoast ice = Check.at("1h/11");
        ice.coin(0, 5);
        ice.coin(1, 6);
        ice.coin(2, 7);
        ice.berg(4, 3, 77, 7, 0);
        return ice.best(0, 2);
    }

    private static void imagesAndSeas() {
        IceForCoast ice = Check.at("1h/11");
        ice.berg(0, 0, 100, 50, 0);
        ice.image();
        Check.write(ice, "zz");
        Check.due("no sea", ice.sea(), STATE);
        Check.due("restore() behind a refused sea", ice.restore(), 1);
        ice.blank();
        Check.write(ice, "1h/11");
        ice.sea();
        Check.due("restore() behind a sea of the same text", ice.restore(), STATE);
        Check.due("refused: no berg", ice.count(1), 0);
        ice.berg(1, 0, 100, 50, 0);
        ice.berg(1, 0, 100, 50, 0);
        Check.due("restore(): refused still", ice.restore(), STATE);
        Check.due("image() of the new sea", ice.image(), 2);
        Check.due("restore() of the new sea", ice.restore(), 2);
    }

    private static void count() {
        IceForCoast ice = Check.at("1h/11/##");
        ice.berg(0, 0, 100, 50, 0);
        ice.berg(0, 0, 100, 50, 0);
        ice.line(0, 0, 0);
        ice.line(0, 0, 1);
        ice.line(0, 1, 2);
        Check.write(ice, "abcd");
        ice.coin(0, 9);
        ice.coin(1, 8);
        ice.coin(2, 77);
        ice.came(0, 1, false, 0, 0);
        ice.came(0, 1, false, 0, 1);
        long[] counts = {6, 2, 3, 4, 9, 8, 77, 1, 2};
        for (int what = 0; what < counts.length; what++) {
            Check.due("count(" + what + ")", ice.count(what), counts[what]);
        }
        for (int what : new int[] {-1, 9, Integer.MAX_VALUE, Integer.MIN_VALUE}) {
            Check.due("count(" + what + ")", ice.count(what), OUTSIDE);
        }
        ice.blank();
        Check.write(ice, "1h/11");
        ice.sea();
        Check.due("two seas", ice.count(7), 2);
    }

    private static long fold(long h, int... numbers) {
        for (int number : numbers) {
            h = 31 * h + number;
        }
        return h;
    }

    private static void digestWithoutSea() {
        IceForCoast ice = new IceForCoast();
        Check.due("digest() of none", ice.digest(), fold(569, 0, 0, 0, 0, 3, 1, 20, 0, 0));
        Check.write(ice, "a~");
        Check.due("digest() of a page", ice.digest(), fold(569, 'a', '~', 0, 0, 0, 2, 3, 1, 20, 0, 0));
    }

    private static void digest() {
        IceForCoast ice = Check.at("1h/#2s");
        long h = fold(569, 1, -1, 1, 10, -1, 0, 11, -1, 2, 2, 2, 1);
        long alone = fold(h, 0, -1, -1, -1, -1, -1, 4, 0, 0, 0, 3, 1, 20, 1, 0);
        Check.due("digest() of a sea", ice.digest(), alone);
        ice.berg(0, 0, 100, 50, 0);
        ice.berg(1, 3, 15, 60, 0);
        ice.line(3, 1, 77);
        Check.write(ice, "q");
        // By three tugs 97 in two days; best by six in one.
        h = fold(h, 0, 0, 100, 50, 0, 1, 97, 2, 285, 1, 6, 0, 288);
        // The other one goes against the current: 13 in two days.
        h = fold(h, 1, 3, 15, 60, 0, 1, 13, 2, 33, 1, 1, 0, 37);
        h = fold(h, 285 + 37, 3, 1, -1, -1, -1);
        h = fold(h, 3, 1, 77, 'q');
        h = fold(h, 4, 2, 1, 1, 3, 1, 20, 1, 0);
        Check.due("digest() of all", ice.digest(), h);
        Check.due("digest() again", ice.digest(), h);
        shutIn();
    }

    private static void shutIn() {
        IceForCoast ice = Check.at("1#/#h");
        ice.berg(2, 0, 100, 50, 5);
        long h = fold(569, 1, -1, 2, 11, -1, 1, 11, -1, 1, 10, -1, 0);
        h = fold(h, 2, 0, 100, 50, 5, 0, -100001, -100001, -100001, -100001, -100001, -100001, -100001);
        h = fold(h, 0, 0, -1, -1, -1, -1, 4, 1, 0, 0, 3, 1, 20, 1, 0);
        Check.due("digest() of one shut in", ice.digest(), h);
    }

    /** Calls that are refused change nothing. */
    private static void digestOfRefusals() {
        IceForCoast ice = Check.at("1h/#2s");
        ice.berg(0, 0, 100, 50, 0);
        ice.line(3, 0, 77);
        Check.write(ice, "q");
        long before = ice.digest();
        ice.letters(-1L);
        ice.sea();
        ice.berg(5, 0, 100, 50, 0);
        ice.berg(0, 1, 100, 50, 0);
        ice.berg(0, 0, 100, 100, 0);
        ice.change(0, 2, 9);
        ice.change(0, 3, 100);
        ice.change(1, 3, 10);
        ice.coin(0, 0);
        ice.coin(3, 1);
        ice.came(0, 0, false, 0, 0);
        ice.line(0, 0, 100);
        ice.line(5, 0, 10);
        ice.restore();
        Check.due("digest() behind refusals", ice.digest(), before);
        ice.tow(0, 2, true, 0);
        ice.best(0, 0);
        ice.season(3, 0);
        ice.more(3);
        ice.drawn(0, 3, true, 5, 0);
        ice.letOff(500, 5, 5, 5, 0);
        ice.claims(0, 0, 5, 1, 0);
        ice.fault();
        ice.image();
        Check.due("digest() behind questions", ice.digest(), before);
    }
}
