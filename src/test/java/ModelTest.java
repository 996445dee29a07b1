import java.util.Random;

/** Runs of calls drawn by fixed seeds, each answered by the class and by IceModel alike. */
public final class ModelTest {
    private static final int[] WILD = {-1, Integer.MIN_VALUE, Integer.MAX_VALUE, 64, 5, 10, 11, 12, 100, 999, 1000};

    private final Random random;
    private final IceForCoast ice = new IceForCoast();
    private final IceModel model = new IceModel();
    private final int run;
    private final boolean small;
    private int calls = 0;

    private ModelTest(int run) {
        this.run = run;
        this.random = new Random(run);
        this.small = run % 10 != 0;
    }

    public static void main(String[] args) {
        int runs = args.length > 0 ? Integer.parseInt(args[0]) : 400;
        for (int run = 0; run < runs; run++) {
            new ModelTest(run).go();
        }
        Check.end();
    }

    private void go() {
        int length = random.nextInt(4) == 0 ? 512 : 150;
        if (random.nextInt(6) != 0) {
            writeSea(seaText());
        }
        while (calls < length) {
            call();
        }
    }

    private void due(String call, long got, long want) {
        calls++;
        Check.due("run " + run + ", call " + calls + ": " + call, got, want);
    }

    /** Mostly from low to high, seldom far out of it. */
    private int from(int low, int high) {
        if (random.nextInt(40) == 0) {
            return WILD[random.nextInt(WILD.length)];
        }
        int edge = random.nextInt(12);
        return edge == 0 ? low : edge == 1 ? high : low + random.nextInt(high - low + 1);
    }

    private String seaText() {
        int rows = small ? 2 + random.nextInt(3) : 2 + random.nextInt(4);
        int width = small ? 2 + random.nextInt(3) : 2 + random.nextInt(5);
        int harbour = random.nextInt(rows * width);
        int land = random.nextInt(4);
        int warmest = 1 + random.nextInt(10);
        StringBuilder text = new StringBuilder();
        for (int s = 0; s < rows * width; s++) {
            if (s > 0 && s % width == 0) {
                text.append('/');
            }
            if (s == harbour) {
                text.append('h');
            } else if (random.nextInt(10) < land) {
                text.append('#');
            } else {
                text.append((char) ('0' + random.nextInt(warmest)));
                text.append(random.nextInt(3) == 0 ? "nesw".substring(random.nextInt(4)).substring(0, 1) : "");
            }
        }
        return text.toString();
    }

    private String brokenText() {
        StringBuilder text = new StringBuilder(seaText());
        int at = random.nextInt(text.length());
        char odd = "h#/n05x".charAt(random.nextInt(7));
        switch (random.nextInt(3)) {
            case 0 -> text.setCharAt(at, odd);
            case 1 -> text.insert(at, odd);
            default -> text.setLength(at);
        }
        return text.toString();
    }

    private void write(String text) {
        for (int i = 0; i < text.length(); i += 8) {
            letters(Check.word(text, i));
        }
    }

    private void writeSea(String text) {
        due("blank()", ice.blank(), model.blank());
        write(text);
        due("fault()", ice.fault(), model.fault());
        due("sea() of " + text, ice.sea(), model.sea());
        for (int b = random.nextInt(7); b > 0; b--) {
            berg();
        }
    }

    private void letters(long w) {
        due("letters(" + w + ")", ice.letters(w), model.letters(w));
    }

    private void berg() {
        int kind = from(0, 4);
        int square = from(0, small ? 11 : 29);
        int size = random.nextInt(3) == 0 ? from(10, 60) : from(10, 999);
        int foot = random.nextInt(2) == 0 ? from(0, 20) : from(0, 99);
        int n = random.nextInt(20) == 0 ? from(0, 10) : kind == 2 ? from(2, 9) : 0;
        String told = "berg(" + kind + ", " + square + ", " + size + ", " + foot + ", " + n + ")";
        due(told, ice.berg(kind, square, size, foot, n), model.berg(kind, square, size, foot, n));
    }

    private void call() {
        switch (random.nextInt(23)) {
            case 0 -> page();
            case 1 -> berg();
            case 2 -> small();
            case 3, 4 -> changes();
            case 5, 6, 7, 8 -> tow();
            case 9, 10 -> bests();
            case 11, 12 -> drawn();
            case 13 -> came();
            case 14, 15 -> letOff();
            case 16 -> line();
            case 17, 18 -> claims();
            case 19 -> images();
            case 20 -> due("digest()", ice.digest(), model.digest());
            default -> told();
        }
    }

    private void page() {
        switch (random.nextInt(12)) {
            case 0 -> writeSea(seaText());
            case 1, 2, 3 -> {
                due("blank()", ice.blank(), model.blank());
                String text = brokenText();
                write(text);
                due("fault() of " + text, ice.fault(), model.fault());
                due("sea() of " + text, ice.sea(), model.sea());
            }
            case 4 -> letters(random.nextLong());
            case 5 -> letters(random.nextLong() & 0x7F7F7F7F7F7F7F7FL);
            case 6 -> letters(from(0, 130));
            case 7 -> due("blank()", ice.blank(), model.blank());
            case 8 -> due("sea()", ice.sea(), model.sea());
            default -> write("1h/23".substring(random.nextInt(5)));
        }
        due("fault()", ice.fault(), model.fault());
    }

    private void small() {
        int a = from(0, 5);
        int b = from(0, 5);
        due("as(" + a + ", " + b + ")", ice.as(a, b), model.as(a, b));
        due("about(" + a + ", " + b + ")", ice.about(a, b), model.about(a, b));
        int s = from(0, 30);
        int w = from(0, 3);
        due("square(" + s + ", " + w + ")", ice.square(s, w), model.square(s, w));
    }

    private void changes() {
        int b = from(0, 4);
        int what = random.nextInt(12) == 0 ? from(0, 5) : 2 + random.nextInt(2);
        int v = what == 2 ? from(10, 999) : from(0, 99);
        due("change(" + b + ", " + what + ", " + v + ")", ice.change(b, what, v), model.change(b, what, v));
        int which = from(0, 2);
        int coin = which == 2 ? from(0, 99) : from(0, 9);
        if (random.nextInt(3) == 0) {
            due("coin(" + which + ", " + coin + ")", ice.coin(which, coin), model.coin(which, coin));
        }
    }

    private void tow() {
        int b = from(0, 4);
        int tugs = from(1, 11);
        boolean skirt = random.nextBoolean();
        int what = random.nextInt(2) == 0 ? from(0, 3) : from(9, 19);
        String told = "tow(" + b + ", " + tugs + ", " + skirt + ", " + what + ")";
        due(told, ice.tow(b, tugs, skirt, what), model.tow(b, tugs, skirt, what));
        if (random.nextInt(3) == 0) {
            due("ways(" + b + ")", ice.ways(b), model.ways(b));
        }
    }

    private void bests() {
        int a = from(0, 4);
        int what = from(0, 2);
        due("best(" + a + ", " + what + ")", ice.best(a, what), model.best(a, what));
        int tugs = from(1, 11);
        int of = from(0, 5);
        due("season(" + tugs + ", " + of + ")", ice.season(tugs, of), model.season(tugs, of));
        int fewer = from(1, 10);
        due("more(" + fewer + ")", ice.more(fewer), model.more(fewer));
    }

    private void drawn() {
        int b = from(0, 4);
        int tugs = from(1, 11);
        boolean skirt = random.nextBoolean();
        int seed = random.nextInt(2) == 0 ? from(0, 1000) : random.nextInt();
        int what = from(0, 2);
        String told = "drawn(" + b + ", " + tugs + ", " + skirt + ", " + seed + ", " + what + ")";
        due(told, ice.drawn(b, tugs, skirt, seed, what), model.drawn(b, tugs, skirt, seed, what));
    }

    private void came() {
        int b = from(0, 4);
        int tugs = from(1, 11);
        boolean skirt = random.nextBoolean();
        int water = random.nextInt(2) == 0 ? from(0, 20) : from(0, 999);
        int what = from(0, 2);
        String told = "came(" + b + ", " + tugs + ", " + skirt + ", " + water + ", " + what + ")";
        due(told, ice.came(b, tugs, skirt, water, what), model.came(b, tugs, skirt, water, what));
    }

    private void letOff() {
        int size = random.nextInt(2) == 0 ? from(0, 40) : from(0, 999);
        int days = from(0, 9);
        int melt = random.nextInt(2) == 0 ? from(0, 9) : from(0, 99);
        int odds = from(0, 9);
        int what = from(0, 2);
        String told = "letOff(" + size + ", " + days + ", " + melt + ", " + odds + ", " + what + ")";
        due(told, ice.letOff(size, days, melt, odds, what), model.letOff(size, days, melt, odds, what));
    }

    private void line() {
        int house = from(0, 4);
        int b = random.nextInt(2) == 0 ? 0 : from(0, 4);
        int day = random.nextInt(2) == 0 ? from(0, 5) : from(0, 99);
        due("line(" + house + ", " + b + ", " + day + ")", ice.line(house, b, day), model.line(house, b, day));
    }

    private void claims() {
        int house = from(0, 4);
        int b = random.nextInt(2) == 0 ? 0 : from(0, 4);
        int day = random.nextInt(2) == 0 ? from(0, 20) : from(0, 999);
        int rule = from(0, 2);
        int part = from(0, 1);
        String told = "claims(" + house + ", " + b + ", " + day + ", " + rule + ", " + part + ")";
        due(told, ice.claims(house, b, day, rule, part), model.claims(house, b, day, rule, part));
    }

    private void images() {
        if (random.nextInt(3) == 0) {
            due("image()", ice.image(), model.image());
        } else {
            due("restore()", ice.restore(), model.restore());
        }
    }

    private void told() {
        int what = from(0, 9);
        due("count(" + what + ")", ice.count(what), model.count(what));
    }
}
