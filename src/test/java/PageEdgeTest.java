import java.util.ArrayList;
import java.util.List;

/**
 * The edges of promises 1 to 6 and of what "Terms" tells of THE SEA: of each sentence that names
 * a boundary the call just inside and the call just outside it, and that refusals change nothing.
 */
public final class PageEdgeTest {
    private static final int NONE = -1;
    private static final int UNKNOWN = -101;
    private static final int OUTSIDE = -102;
    private static final int STATE = -103;
    private static final int FULL = -104;
    private static final int FAR_UNKNOWN = -100101;
    private static final int MIN = Integer.MIN_VALUE;
    private static final int MAX = Integer.MAX_VALUE;
    private static final String SQUARES = "0123456789#h";
    private static final String CURRENTS = "nesw";

    public static void main(String[] args) {
        nothingInANewObject();
        theFirstOfEach();
        upToEightLetters();
        untilAByteThatIsZero();
        aByteAbove126();
        oneBehindAZero();
        fullAbove64();
        blankOfAnEmptyAndOfAFullPage();
        faultOfTheFirstLetter();
        faultOfTheNextLetter();
        faultOfRowsAndSquares();
        faultOfNone();
        faultLooksNoFurther();
        rowsAndSquares();
        allAsMany();
        oneHarbour();
        aDigitAndACurrent();
        thePageBehindSea();
        anotherSeaIsGone();
        refusedSeaKeepsTheSea();
        squaresOfASea();
        whatOfASquare();
        howFar();
        Check.end();
    }

    // ---- promise 1: "No SEA, no BERGS, no LINES."

    private static void nothingInANewObject() {
        IceForCoast ice = new IceForCoast();
        long before = ice.digest();
        Check.due("new: blank()", ice.blank(), 0);
        Check.due("new: fault()", ice.fault(), 0);
        Check.due("new: sea()", ice.sea(), STATE);
        Check.due("new: square(0, 0)", ice.square(0, 0), UNKNOWN);
        Check.due("new: berg(0, 0, 10, 0, 0)", ice.berg(0, 0, 10, 0, 0), UNKNOWN);
        Check.due("new: as(0, 0)", ice.as(0, 0), UNKNOWN);
        Check.due("new: about(0, 0)", ice.about(0, 0), UNKNOWN);
        Check.due("new: change(0, 2, 10)", ice.change(0, 2, 10), UNKNOWN);
        Check.due("new: tow(0, 1, false, 0)", ice.tow(0, 1, false, 0), FAR_UNKNOWN);
        Check.due("new: ways(0)", ice.ways(0), UNKNOWN);
        Check.due("new: best(0, 0)", ice.best(0, 0), FAR_UNKNOWN);
        Check.due("new: season(1, 0)", ice.season(1, 0), STATE);
        Check.due("new: more(1)", ice.more(1), STATE);
        Check.due("new: drawn(0, 1, false, 0, 0)", ice.drawn(0, 1, false, 0, 0), UNKNOWN);
        Check.due("new: came(0, 1, false, 0, 0)", ice.came(0, 1, false, 0, 0), UNKNOWN);
        Check.due("new: line(0, 0, 0)", ice.line(0, 0, 0), UNKNOWN);
        Check.due("new: claims(0, 0, 0, 0, 0)", ice.claims(0, 0, 0, 0, 0), UNKNOWN);
        Check.due("new: image()", ice.image(), STATE);
        Check.due("new: restore()", ice.restore(), STATE);
        int[] counts = {0, 0, 0, 0, 3, 1, 20, 0, 0};
        for (int what = 0; what <= 8; what++) {
            Check.due("new: count(" + what + ")", ice.count(what), counts[what]);
        }
        Check.due("new: digest() behind it all", ice.digest(), before);
    }

    private static void theFirstOfEach() {
        IceForCoast ice = Check.at("0h/##");
        Check.due("a first sea: squares", ice.count(0), 4);
        Check.due("a first sea: no berg", ice.count(1), 0);
        Check.due("a first sea: about(0, 0)", ice.about(0, 0), UNKNOWN);
        Check.due("a first sea: season(1, 0)", ice.season(1, 0), 0);
        Check.due("a first sea: line(0, 0, 0)", ice.line(0, 0, 0), UNKNOWN);
        Check.due("a first berg", ice.berg(0, 0, 10, 0, 0), 0);
        Check.due("a first berg: about(0, 0)", ice.about(0, 0), 0);
        Check.due("a first berg: no line", ice.count(2), 0);
        Check.due("a first line", ice.line(0, 0, 0), 1);
    }

    // ---- promise 2: letters

    /** So many letters "1" from the lowest byte on. */
    private static long ones(int many) {
        long w = 0;
        for (int i = 0; i < many; i++) {
            w |= 0x31L << (8 * i);
        }
        return w;
    }

    private static IceForCoast withLetters(int many) {
        IceForCoast ice = new IceForCoast();
        for (int left = many; left > 0; left -= 8) {
            ice.letters(ones(Math.min(8, left)));
        }
        return ice;
    }

    private static void upToEightLetters() {
        for (int many = 0; many <= 8; many++) {
            IceForCoast ice = new IceForCoast();
            Check.due("letters of " + many, ice.letters(ones(many)), many);
            Check.due("letters of " + many + " more", ice.letters(ones(many)), 2 * many);
        }
    }

    private static void untilAByteThatIsZero() {
        for (int zero = 0; zero < 8; zero++) {
            IceForCoast ice = withLetters(3);
            Check.due("letters: a 0 at " + zero + " and behind", ice.letters(ones(zero)), 3 + zero);
        }
        Check.due("letters: no 0", new IceForCoast().letters(ones(8)), 8);
    }

    private static void aByteAbove126() {
        for (int place = 0; place < 8; place++) {
            for (long code : new long[] {127, 128, 200, 255}) {
                long w = ones(place) | code << (8 * place);
                IceForCoast ice = withLetters(5);
                Check.refused(ice, "letters: a byte of " + code + " at " + place, () -> ice.letters(w), OUTSIDE);
                Check.due("letters: none came", ice.count(3), 5);
            }
            for (long code : new long[] {1, 125, 126}) {
                IceForCoast ice = withLetters(5);
                long w = ones(place) | code << (8 * place);
                Check.due("letters: a byte of " + code + " at " + place, ice.letters(w), 5 + place + 1);
            }
        }
    }

    private static void oneBehindAZero() {
        for (int zero = 0; zero < 7; zero++) {
            for (int place = zero + 1; place < 8; place++) {
                for (long code : new long[] {1, 0x31, 126, 127, 128, 255}) {
                    IceForCoast ice = withLetters(2);
                    long w = ones(zero) | code << (8 * place);
                    Check.refused(ice, "letters: " + code + " at " + place + " behind a 0 at " + zero,
                        () -> ice.letters(w), OUTSIDE);
                }
            }
            IceForCoast ice = withLetters(2);
            Check.due("letters: 0 alone behind a 0 at " + zero, ice.letters(ones(zero)), 2 + zero);
        }
    }

    private static void fullAbove64() {
        for (int many = 1; many <= 8; many++) {
            long w = ones(many);
            IceForCoast inside = withLetters(64 - many);
            Check.due("letters: " + many + " up to 64", inside.letters(w), 64);
            Check.refused(inside, "letters: one above 64", () -> inside.letters(ones(1)), FULL);
            IceForCoast outside = withLetters(65 - many);
            Check.refused(outside, "letters: " + many + " up to 65", () -> outside.letters(w), FULL);
            Check.due("letters: none of them came", outside.count(3), 65 - many);
        }
        IceForCoast full = withLetters(64);
        Check.due("letters: none to 64", full.letters(0), 64);
        Check.refused(full, "letters: 127 ahead of full", () -> full.letters(127), OUTSIDE);
        Check.refused(full, "letters: one behind a 0 ahead of full", () -> full.letters(0x3100L), OUTSIDE);
        Check.refused(full, "letters: eight to 64", () -> full.letters(ones(8)), FULL);
    }

    // ---- promise 3: blank

    private static void blankOfAnEmptyAndOfAFullPage() {
        for (int many : new int[] {0, 1, 63, 64}) {
            IceForCoast ice = withLetters(many);
            Check.due("blank() of " + many, ice.blank(), many);
            Check.due("blank() of none then", ice.blank(), 0);
            Check.due("letters behind blank()", ice.count(3), 0);
            Check.due("fault() behind blank()", ice.fault(), 0);
            Check.due("eight letters behind blank()", ice.letters(ones(8)), 8);
        }
        IceForCoast ice = withLetters(64);
        ice.blank();
        for (int many = 8; many <= 64; many += 8) {
            Check.due("letters up to 64 behind blank()", ice.letters(ones(8)), many);
        }
        Check.due("letters above 64 behind blank()", ice.letters(ones(1)), FULL);
    }

    // ---- promise 4: fault, and the letters that a SEA may have in each place

    /** Behind a text that a sea may begin with just these letters may stand, of all that there are. */
    private static void next(String begun, String may) {
        for (int code = 1; code <= 126; code++) {
            IceForCoast ice = new IceForCoast();
            Check.write(ice, begun);
            ice.letters(code);
            boolean taken = may.indexOf(code) >= 0;
            int want = begun.length() + (taken ? 1 : 0);
            Check.due("fault() of " + begun + " and the code " + code, ice.fault(), want);
        }
    }

    private static void faultOfTheFirstLetter() {
        Check.due("fault() of an empty page", new IceForCoast().fault(), 0);
        next("", SQUARES);
    }

    private static void faultOfTheNextLetter() {
        next("1", SQUARES + CURRENTS);
        next("1n", SQUARES);
        next("#", SQUARES);
        next("h", "0123456789#");
        next("11", SQUARES + CURRENTS + "/");
        next("11w", SQUARES + "/");
        next("1#", SQUARES + "/");
        next("1h", "0123456789#/");
        next("h1", "0123456789#/" + CURRENTS);
        next("h1e", "0123456789#/");
    }

    private static void faultOfRowsAndSquares() {
        next("11111", SQUARES + CURRENTS + "/");
        next("111111", CURRENTS + "/");
        next("111111s", "/");
        next("11111#", "/");
        next("11/", SQUARES);
        next("h1/", "0123456789#");
        next("11/1", SQUARES + CURRENTS);
        next("11/1e", SQUARES);
        next("11/11", CURRENTS + "/");
        next("11/1#", "/");
        next("11/11n", "/");
        next("111111/11111", SQUARES + CURRENTS);
        next("111111/111111", CURRENTS + "/");
        next("11/11/11/", SQUARES);
        next("11/11/11/11", CURRENTS + "/");
        next("11/11/11/11/", SQUARES);
        next("11/11/11/11/1", SQUARES + CURRENTS);
        next("11/11/11/11/11", CURRENTS);
        next("11/11/11/11/11n", "");
        next("11/11/11/11/1h", "");
    }

    /** "a HARBOUR that is still missing is not looked at"; "how many letters it has, if there is none" */
    private static void faultOfNone() {
        String row = "1n1n1n1n1n1n";
        String rows = row + "/" + row + "/" + row + "/" + row + "/";
        String[] texts = {"1", "1n", "##", "11/11", "##/##/##/##/##", rows + "1n1n1n1n1n1", rows + row,
            rows + "1n1n1n1n1nh"};
        for (String text : texts) {
            IceForCoast ice = new IceForCoast();
            Check.write(ice, text);
            Check.due("fault() of " + text, ice.fault(), text.length());
            Check.due("fault() leaves the page", ice.count(3), text.length());
            Check.due("sea() of " + text, ice.sea(), text.equals(rows + "1n1n1n1n1nh") ? 30 : STATE);
        }
    }

    /** "the first letter .. behind those ahead of it": what comes behind it does not matter. */
    private static void faultLooksNoFurther() {
        for (String rest : new String[] {"", "1", "/11", "hh", "11/1h/11"}) {
            IceForCoast ice = new IceForCoast();
            Check.write(ice, "11/1x" + rest);
            Check.due("fault() of 11/1x" + rest, ice.fault(), 4);
            Check.refused(ice, "sea() of 11/1x" + rest, ice::sea, STATE);
        }
        IceForCoast ice = new IceForCoast();
        Check.write(ice, "x11/1h");
        Check.due("fault() of the first", ice.fault(), 0);
        IceForCoast last = new IceForCoast();
        Check.write(last, "11/1hx");
        Check.due("fault() of the last", last.fault(), 5);
    }

    // ---- promise 5: sea, and how many rows and squares

    private static void seaOf(String text, int want) {
        IceForCoast ice = new IceForCoast();
        Check.write(ice, text);
        Check.due("letters of " + text, ice.count(3), text.length());
        if (want == STATE) {
            Check.refused(ice, "sea() of " + text, ice::sea, STATE);
            Check.due("letters behind sea() of " + text, ice.count(3), text.length());
            Check.due("squares behind sea() of " + text, ice.count(0), 0);
            Check.due("season() behind sea() of " + text, ice.season(1, 0), STATE);
        } else {
            Check.due("sea() of " + text, ice.sea(), want);
            Check.due("letters behind sea() of " + text, ice.count(3), 0);
            Check.due("squares behind sea() of " + text, ice.count(0), want);
        }
    }

    /** "two to five ROWS", "two to six SQUARES" */
    private static void rowsAndSquares() {
        for (int rows = 1; rows <= 6; rows++) {
            for (int width = 1; width <= 7; width++) {
                List<String> all = new ArrayList<>();
                for (int row = 0; row < rows; row++) {
                    all.add((row == rows - 1 ? "h" : "1") + "1".repeat(width - 1));
                }
                boolean one = rows >= 2 && rows <= 5 && width >= 2 && width <= 6;
                seaOf(String.join("/", all), one ? rows * width : STATE);
            }
        }
        seaOf("", STATE);
        seaOf("h1/", STATE);
        seaOf("/h1", STATE);
        seaOf("h1//11", STATE);
        seaOf("11/h1/", STATE);
    }

    /** "(all as many)", in each row that is not the first. */
    private static void allAsMany() {
        for (int odd = 0; odd < 5; odd++) {
            for (int width = 2; width <= 4; width++) {
                StringBuilder text = new StringBuilder("h11");
                for (int row = 1; row < 5; row++) {
                    text.append('/').append("1".repeat(row == odd ? width : 3));
                }
                seaOf(text.toString(), odd == 0 || width == 3 ? 15 : STATE);
            }
        }
    }

    /** "the HARBOUR (just one)" */
    private static void oneHarbour() {
        seaOf("11/11", STATE);
        for (String text : new String[] {"h1/11", "1h/11", "11/h1", "11/1h"}) {
            seaOf(text, 4);
            for (int i = 0; i < text.length(); i++) {
                if (text.charAt(i) == '1') {
                    seaOf(text.substring(0, i) + "h" + text.substring(i + 1), STATE);
                    seaOf(text.substring(0, i) + "#" + text.substring(i + 1), 4);
                }
            }
        }
    }

    /** "a digit, its WARMTH, then perhaps a CURRENT" */
    private static void aDigitAndACurrent() {
        for (char digit = '/'; digit <= ':'; digit++) {
            seaOf("h" + digit + "/11", digit >= '0' && digit <= '9' ? 4 : STATE);
            seaOf("h1/1" + digit, digit >= '0' && digit <= '9' ? 4 : STATE);
        }
        for (char current : "nesw".toCharArray()) {
            seaOf("h1/11" + current, 4);
            seaOf("h1/11" + current + current, STATE);
            seaOf("h1/1#" + current, STATE);
            seaOf("h" + current + "1/11", STATE);
            seaOf(current + "h1/11", STATE);
            seaOf("h1/" + current + "11", STATE);
            seaOf("h1" + (char) (current + 1) + "/11", STATE);
            seaOf("h1" + Character.toUpperCase(current) + "/11", STATE);
        }
        IceForCoast ice = Check.at("0n9e/5sh/4w3");
        int[] currents = {0, 1, 2, NONE, 3, NONE};
        for (int s = 0; s < 6; s++) {
            Check.due("the current of " + s, ice.square(s, 1), currents[s]);
        }
    }

    private static void thePageBehindSea() {
        IceForCoast ice = new IceForCoast();
        Check.write(ice, "1n1n1n1n1n1n/1n1n1n1n1n1n/1n1n1n1n1n1n/1n1n1n1n1n1n/1n1n1n1n1nh");
        Check.due("letters of the longest sea", ice.count(3), 63);
        Check.due("the longest sea", ice.sea(), 30);
        Check.due("its page is empty", ice.count(3), 0);
        Check.due("nothing is left to blank()", ice.blank(), 0);
        Check.refused(ice, "the empty page is no sea", ice::sea, STATE);
        Check.due("seas read", ice.count(7), 1);
    }

    // ---- "another one is gone, with BERGS and LINES"

    private static IceForCoast full() {
        IceForCoast ice = Check.at("1h/11");
        ice.berg(0, 0, 100, 50, 0);
        ice.berg(2, 3, 200, 60, 4);
        ice.line(1, 0, 5);
        ice.line(2, 1, 6);
        ice.coin(0, 8);
        return ice;
    }

    private static void anotherSeaIsGone() {
        IceForCoast ice = full();
        Check.write(ice, "1h/11/##");
        Check.due("another sea", ice.sea(), 6);
        Check.due("another sea: bergs", ice.count(1), 0);
        Check.due("another sea: lines", ice.count(2), 0);
        Check.due("another sea: about(0, 0)", ice.about(0, 0), UNKNOWN);
        Check.due("another sea: claims", ice.claims(1, 0, 9, 0, 0), UNKNOWN);
        Check.due("another sea: season", ice.season(11, 0), 0);
        Check.due("another sea: season of none", ice.season(11, 1), NONE);
        Check.due("another sea: the price stays", ice.count(4), 8);
        Check.due("another sea: a first berg", ice.berg(0, 2, 10, 0, 0), 0);
        Check.due("another sea: nobody's line", ice.claims(1, 0, 9, 0, 0), 0);
        Check.due("another sea: a first line", ice.line(4, 0, 0), 1);
        ofAnotherWidth();
        bergsOfAnotherSea();
    }

    /** Nothing of the sea before is left in one that is wider, or of more rows. */
    private static void ofAnotherWidth() {
        IceForCoast ice = Check.at("h1/11");
        String[] texts = {"0123/h567", "01/23/45/6h", "h12345/012345/012345/012345/012345", "h1/11"};
        int[] widths = {4, 2, 6, 2};
        int[] harbours = {4, 7, 0, 0};
        for (int i = 0; i < texts.length; i++) {
            Check.write(ice, texts[i]);
            int squares = ice.sea();
            int width = widths[i];
            Check.due("squares of " + texts[i], squares, texts[i].replace("/", "").length());
            for (int s = 0; s < squares; s++) {
                int far = Math.abs(s / width - harbours[i] / width) + Math.abs(s % width - harbours[i] % width);
                Check.due("how far " + s + " of " + texts[i] + " is", ice.square(s, 2), far);
            }
            Check.due("none behind", ice.square(squares, 2), UNKNOWN);
        }
        Check.write(ice, "n");
        Check.due("fault() behind a sea that ended with a warmth", ice.fault(), 0);
    }

    /** What was reckoned of berg 0 of the sea before is not told of that of the next. */
    private static void bergsOfAnotherSea() {
        IceForCoast ice = Check.at("0h/##");
        ice.berg(0, 0, 19, 99, 0);
        Check.due("best of the first sea", ice.best(0, 2), 3 * 18 - 1);
        Check.due("season of the first sea", ice.season(11, 0), 3 * 18 - 1);
        Check.write(ice, "9h/##");
        ice.sea();
        ice.berg(0, 0, 19, 99, 0);
        Check.due("best of the second sea", ice.best(0, 2), 3 * 17 - 1);
        Check.due("season of the second sea", ice.season(11, 0), 3 * 17 - 1);
        Check.write(ice, "#0/h#");
        ice.sea();
        ice.berg(0, 1, 19, 99, 0);
        Check.due("season of the third sea, without a way", ice.season(11, 0), 0);
        Check.write(ice, "0h/##");
        ice.sea();
        ice.berg(0, 0, 19, 99, 0);
        Check.due("season of the fourth sea", ice.season(11, 0), 3 * 18 - 1);
    }

    private static void refusedSeaKeepsTheSea() {
        for (String text : new String[] {"", "h1", "h1/1", "11/11", "h1/1h", "x"}) {
            IceForCoast ice = full();
            Check.due("image()", ice.image(), 2);
            ice.line(3, 1, 7);
            Check.write(ice, text);
            Check.refused(ice, "sea() of " + text, ice::sea, STATE);
            Check.due("the bergs stay", ice.count(1), 2);
            Check.due("the lines stay", ice.count(2), 3);
            Check.due("the letters stay", ice.count(3), text.length());
            Check.due("seas read", ice.count(7), 1);
            Check.due("the image stays", ice.restore(), 2);
            Check.due("the image's lines", ice.count(2), 2);
        }
    }

    // ---- promise 6: square

    private static void squaresOfASea() {
        String[] texts = {"h1/11", "h11111/111111/111111/111111/111111"};
        int[] many = {4, 30};
        for (int i = 0; i < texts.length; i++) {
            IceForCoast ice = Check.at(texts[i]);
            int last = many[i] - 1;
            Check.due("the first square", ice.square(0, 0), 10);
            Check.due("the last square", ice.square(last, 0), 1);
            for (int wrong : new int[] {-1, last + 1, MIN, MAX}) {
                for (int what : new int[] {0, 2, 3, -1}) {
                    Check.refused(ice, "square(" + wrong + ", " + what + ")",
                        () -> ice.square(wrong, what), UNKNOWN);
                }
            }
        }
        IceForCoast ice = Check.at(texts[1]);
        Check.due("a square of the greater sea", ice.square(4, 0), 1);
        Check.write(ice, texts[0]);
        ice.sea();
        Check.due("no square of the smaller sea", ice.square(4, 0), UNKNOWN);
        Check.due("its last square", ice.square(3, 0), 1);
        IceForCoast none = new IceForCoast();
        Check.due("square(0, 3) without a sea", none.square(0, 3), UNKNOWN);
    }

    private static void whatOfASquare() {
        IceForCoast ice = Check.at("0n9w/h#");
        int[][] told = {{0, 0, 1}, {9, 3, 2}, {10, NONE, 0}, {11, NONE, 1}};
        for (int s = 0; s < 4; s++) {
            for (int what = 0; what <= 2; what++) {
                Check.due("square(" + s + ", " + what + ")", ice.square(s, what), told[s][what]);
            }
            for (int what : new int[] {-1, 3, MIN, MAX}) {
                int at = s;
                Check.refused(ice, "square(" + s + ", " + what + ")", () -> ice.square(at, what), OUTSIDE);
            }
        }
    }

    /** "how far the HARBOUR is, by ROWS and SQUARES together": 0 to 9, from each corner. */
    private static void howFar() {
        for (int corner : new int[] {0, 5, 24, 29}) {
            StringBuilder text = new StringBuilder();
            for (int s = 0; s < 30; s++) {
                text.append(s > 0 && s % 6 == 0 ? "/" : "").append(s == corner ? "h" : "#");
            }
            IceForCoast ice = Check.at(text.toString());
            Check.due("the harbour in " + corner, ice.square(corner, 2), 0);
            Check.due("across from it", ice.square(29 - corner, 2), 9);
            for (int s = 0; s < 30; s++) {
                int rows = Math.abs(s / 6 - corner / 6);
                int squares = Math.abs(s % 6 - corner % 6);
                Check.due("from " + s + " to " + corner, ice.square(s, 2), rows + squares);
            }
        }
    }
}
