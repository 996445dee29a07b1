/** What the tests share: a count of wrong answers, and short ways to lay a sea. */
final class Check {
    private static int wrong = 0;
    private static int done = 0;

    private Check() {
    }

    static void due(String call, long got, long want) {
        done++;
        if (got != want) {
            wrong++;
            System.out.println(call + " answered " + got + ", due is " + want);
        }
    }

    /** A call, made when refused() wants its answer. */
    interface Call {
        long answer();
    }

    /** A call that is refused: the refusal, and that nothing that is told changes by it. */
    static void refused(IceForCoast ice, String told, Call call, long want) {
        long before = ice.digest();
        due(told, call.answer(), want);
        due(told + ": the digest() behind it", ice.digest(), before);
    }

    static void holds(String claim, boolean held) {
        due(claim, held ? 1 : 0, 1);
    }

    static void end() {
        System.out.println(done + " answers, " + wrong + " not as due");
        if (wrong != 0) {
            System.exit(1);
        }
    }

    /** The word that letters() takes for up to eight letters of a text, from a place on. */
    static long word(String text, int from) {
        long w = 0;
        for (int i = 0; i < 8 && from + i < text.length(); i++) {
            w |= (long) text.charAt(from + i) << (8 * i);
        }
        return w;
    }

    /** Puts a text behind the page. */
    static void write(IceForCoast ice, String text) {
        for (int i = 0; i < text.length(); i += 8) {
            ice.letters(word(text, i));
        }
    }

    /** A new object with that text as its sea. */
    static IceForCoast at(String text) {
        IceForCoast ice = new IceForCoast();
        write(ice, text);
        int squares = ice.sea();
        if (squares < 4) {
            due("sea() of " + text, squares, 4);
        }
        return ice;
    }
}
