/** Promises 1 to 6: a new object, the page, where it is wrong, the sea and its squares. */
public final class PageTest {
    private static final int OUTSIDE = -102;
    private static final int STATE = -103;
    private static final int FULL = -104;
    private static final int UNKNOWN = -101;

    public static void main(String[] args) {
        newObject();
        letters();
        blank();
        fault();
        sea();
        square();
        Check.end();
    }

    private static void newObject() {
        IceForCoast ice = new IceForCoast();
        long[] counts = {0, 0, 0, 0, 3, 1, 20, 0, 0};
        for (int what = 0; what < counts.length; what++) {
            Check.due("new: count(" + what + ")", ice.count(what), counts[what]);
        }
        Check.due("new: fault()", ice.fault(), 0);
        Check.due("new: blank()", ice.blank(), 0);
        Check.due("new: sea()", ice.sea(), STATE);
        Check.due("new: square(0, 0)", ice.square(0, 0), UNKNOWN);
        Check.due("new: about(0, 0)", ice.about(0, 0), UNKNOWN);
        Check.due("new: image()", ice.image(), STATE);
        Check.due("new: restore()", ice.restore(), STATE);
        Check.due("new: season(1, 0)", ice.season(1, 0), STATE);
        Check.due("new: season(0, 9)", ice.season(0, 9), STATE);
        Check.due("new: more(0)", ice.more(0), STATE);
    }

    private static void letters() {
        IceForCoast ice = new IceForCoast();
        Check.due("letters(0)", ice.letters(0), 0);
        Check.due("letters('1')", ice.letters('1'), 1);
        Check.due("letters of three", ice.letters(Check.word("2n/", 0)), 4);
        Check.due("letters: a byte of 127", ice.letters(127), OUTSIDE);
        Check.due("letters: a byte of 126", ice.letters(126), 5);
        Check.due("letters: a byte of 128", ice.letters(128), OUTSIDE);
        Check.due("letters: a byte of 255", ice.letters(255), OUTSIDE);
        Check.due("letters: -1", ice.letters(-1L), OUTSIDE);
        Check.due("letters: one behind a 0", ice.letters(0x310031L), OUTSIDE);
        Check.due("letters: 0 ahead of one", ice.letters(0x3100L), OUTSIDE);
        Check.due("letters: the highest byte behind a 0", ice.letters(0x3100000000000031L), OUTSIDE);
        Check.due("letters: a high byte above 126", ice.letters(0x7F31313131313131L), OUTSIDE);
        Check.due("letters: refusals change nothing", ice.count(3), 5);
        Check.due("letters: a byte of 1", ice.letters(1), 6);
        long eight = Check.word("12345678", 0);
        for (int many = 14; many <= 62; many += 8) {
            Check.due("letters: eight more", ice.letters(eight), many);
        }
        Check.due("letters: three above 64", ice.letters(0x313131L), FULL);
        Check.due("letters: outside ahead of full", ice.letters(-1L), OUTSIDE);
        Check.due("letters: still 62", ice.count(3), 62);
        Check.due("letters: two up to 64", ice.letters(0x3131L), 64);
        Check.due("letters: one above 64", ice.letters(0x31L), FULL);
        Check.due("letters: none to 64", ice.letters(0), 64);
        Check.due("letters: still 64", ice.count(3), 64);
        order();
    }

    private static void order() {
        IceForCoast ice = new IceForCoast();
        Check.due("letters: h1/23", ice.letters(Check.word("h1/23", 0)), 5);
        Check.due("sea()", ice.sea(), 4);
        Check.due("lowest byte first: h", ice.square(0, 0), 10);
        Check.due("then 1", ice.square(1, 0), 1);
        Check.due("then 2", ice.square(2, 0), 2);
        Check.due("then 3", ice.square(3, 0), 3);
        IceForCoast unsigned = new IceForCoast();
        Check.due("letters: all eight of 126", unsigned.letters(0x7E7E7E7E7E7E7E7EL), 8);
    }

    private static void blank() {
        IceForCoast ice = new IceForCoast();
        Check.write(ice, "h1/23xyzz#");
        Check.due("blank()", ice.blank(), 10);
        Check.due("blank(): empty", ice.count(3), 0);
        Check.due("blank() again", ice.blank(), 0);
        Check.write(ice, "h1/23");
        Check.due("blank(): letters begin anew", ice.fault(), 5);
        Check.due("blank(): a sea behind it", ice.sea(), 4);
        Check.write(ice, "1");
        Check.due("fault(): a warmth", ice.fault(), 1);
        ice.blank();
        Check.write(ice, "n");
        Check.due("fault(): no current behind a warmth that is gone", ice.fault(), 0);
        ice.blank();
        Check.write(ice, "123/");
        Check.due("fault(): a row", ice.fault(), 4);
        ice.blank();
        Check.write(ice, "h2/34/");
        Check.due("fault(): rows anew", ice.fault(), 6);
    }

    private static void faultOf(String text, int want) {
        IceForCoast ice = new IceForCoast();
        Check.write(ice, text);
        Check.due("fault() of " + text, ice.fault(), want);
        Check.due("fault() keeps the page of " + text, ice.count(3), text.length());
    }

    private static void fault() {
        faultOf("", 0);
        faultOf("h", 1);
        faultOf("h1/23", 5);
        faultOf("n", 0);
        faultOf("/", 0);
        faultOf("1/", 1);
        faultOf("12/", 3);
        faultOf("123456", 6);
        faultOf("1234567", 6);
        faultOf("123456n/", 8);
        faultOf("12345#n", 6);
        faultOf("12/123", 5);
        faultOf("12/12n/", 7);
        faultOf("12/1/", 4);
        faultOf("12//", 3);
        faultOf("1nn", 2);
        faultOf("1n2e3s4w", 8);
        faultOf("#n", 1);
        faultOf("hn", 1);
        faultOf("hh", 1);
        faultOf("h1/1h", 4);
        faultOf("12/n", 3);
        faultOf("11/11/11/11/11", 14);
        faultOf("11/11/11/11/11/", 14);
        faultOf("11/11/11/11/11n/", 15);
        faultOf("11/11/11/11/111", 14);
        faultOf("1N", 1);
        faultOf("H1", 0);
        faultOf("1 1", 1);
        faultOf("9:", 1);
        faultOf("#/", 1);
        faultOf("##/##", 5);
        faultOf("12/1n/", 5);
        faultOf("123/12/", 6);
        faultOf("11/1h/1n1w/#h", 12);
        faultOf("1n1n1n1n1n1n/1n1n1n1n1n1n/1n1n1n1n1n1n/1n1n1n1n1n1n/1n1n1n1n1n1", 63);
        faultOf("1n1n1n1n1n1n/1n1n1n1n1n1n/1n1n1n1n1n1n/1n1n1n1n1n1n/1n1n1n1n1n1n", 64);
    }

    private static void seaOf(String text, int want) {
        IceForCoast ice = new IceForCoast();
        Check.write(ice, text);
        Check.due("sea() of " + text, ice.sea(), want);
        Check.due("letters behind sea() of " + text, ice.count(3), want > 0 ? 0 : text.length());
        Check.due("seas behind sea() of " + text, ice.count(7), want > 0 ? 1 : 0);
        Check.due("squares behind sea() of " + text, ice.count(0), want > 0 ? want : 0);
    }

    private static void sea() {
        seaOf("", STATE);
        seaOf("h1/23", 4);
        seaOf("h1", STATE);
        seaOf("h1/", STATE);
        seaOf("h1/2", STATE);
        seaOf("h1/23/", STATE);
        seaOf("11/23", STATE);
        seaOf("h1/h3", STATE);
        seaOf("h1/23n", 4);
        seaOf("h1/234", STATE);
        seaOf("#h/##", 4);
        seaOf("123456/12345h", 12);
        seaOf("1234567/123456h", STATE);
        seaOf("11/11/11/11/1h", 10);
        seaOf("11/11/11/11/1h/11", STATE);
        seaOf("1n1n1n1n1n1n/1n1n1n1n1n1n/1n1n1n1n1n1n/1n1n1n1n1n1n/1n1n1n1n1nh", 30);
        anotherSea();
    }

    private static void anotherSea() {
        IceForCoast ice = Check.at("h1/23");
        Check.due("berg", ice.berg(0, 3, 100, 10, 0), 0);
        Check.due("line", ice.line(0, 0, 0), 1);
        Check.due("coin", ice.coin(0, 7), 3);
        Check.write(ice, "zz");
        Check.due("no sea", ice.sea(), STATE);
        Check.due("no sea: berg stays", ice.count(1), 1);
        Check.due("no sea: line stays", ice.count(2), 1);
        Check.due("no sea: squares stay", ice.count(0), 4);
        ice.blank();
        Check.write(ice, "###/##1/##h");
        Check.due("another sea", ice.sea(), 9);
        Check.due("another sea: no bergs", ice.count(1), 0);
        Check.due("another sea: no lines", ice.count(2), 0);
        Check.due("another sea: price stays", ice.count(4), 7);
        Check.due("another sea: two read", ice.count(7), 2);
        Check.due("another sea: land", ice.square(0, 0), 11);
        Check.due("another sea: its current", ice.square(5, 1), -1);
        int[] far = {4, 3, 2, 3, 2, 1, 2, 1, 0};
        for (int i = 0; i < 9; i++) {
            Check.due("another sea: how far " + i + " is", ice.square(i, 2), far[i]);
        }
        Check.write(ice, "1h/23");
        Check.due("a smaller sea", ice.sea(), 4);
        Check.due("a smaller sea: no square more", ice.square(4, 0), UNKNOWN);
    }

    private static void square() {
        IceForCoast ice = Check.at("0n1e2s/3w#4/5h9");
        int[] warmth = {0, 1, 2, 3, 11, 4, 5, 10, 9};
        int[] current = {0, 1, 2, 3, -1, -1, -1, -1, -1};
        int[] far = {3, 2, 3, 2, 1, 2, 1, 0, 1};
        for (int i = 0; i < 9; i++) {
            Check.due("square(" + i + ", 0)", ice.square(i, 0), warmth[i]);
            Check.due("square(" + i + ", 1)", ice.square(i, 1), current[i]);
            Check.due("square(" + i + ", 2)", ice.square(i, 2), far[i]);
        }
        Check.due("square(9, 0)", ice.square(9, 0), UNKNOWN);
        Check.due("square(-1, 0)", ice.square(-1, 0), UNKNOWN);
        Check.due("square(9, 9)", ice.square(9, 9), UNKNOWN);
        Check.due("square(8, 3)", ice.square(8, 3), OUTSIDE);
        Check.due("square(8, -1)", ice.square(8, -1), OUTSIDE);
        Check.due("square(max, max)", ice.square(Integer.MAX_VALUE, Integer.MAX_VALUE), UNKNOWN);
        IceForCoast wide = Check.at("h11111/111111/111111/111111/111111");
        Check.due("the farthest square", wide.square(29, 2), 9);
    }
}
