import java.math.BigInteger;
import java.util.ArrayList;
import java.util.HashMap;
import java.util.List;
import java.util.Map;
import java.util.regex.Matcher;
import java.util.regex.Pattern;

/**
 * The document written down a second time, slowly and by other means than the class (ways as
 * texts, deals one by one, fractions of big numbers), so that ModelTest can hold both together.
 */
final class IceModel {
    private static final int NONE = -1, UNKNOWN = -101, OUTSIDE = -102, STATE = -103, FULL = -104;
    private static final int FAR = -100000;
    private static final String WAYS = "nesw";

    record Ice(int kind, int square, int size, int foot, int n) {
    }

    record Line(int house, int berg, int day) {
    }

    record Kept(List<Ice> ices, int[] coins, List<Line> lines) {
    }

    record Towed(String way, int water, int days, int gain) {
    }

    record Asked(String sea, Ice ice, int tugs, boolean skirt, int price, int wage, int cloth) {
    }

    /** Pure answers, kept over all runs: what a tow is depends on nothing but what is asked. */
    private static final Map<Asked, Towed> TOWS = new HashMap<>();

    private String page = "";
    private String sea = null;
    private List<String> squares = new ArrayList<>();
    private int width = 0;
    private List<Ice> ices = new ArrayList<>();
    private List<Line> lines = new ArrayList<>();
    private int[] coins = {3, 1, 20};
    private Kept kept = null;
    private int seas = 0;
    private int cames = 0;

    // ---- the sea

    int letters(long w) {
        StringBuilder added = new StringBuilder();
        for (long rest = w; rest != 0; rest >>>= 8) {
            added.append((char) (rest & 255));
        }
        for (char c : added.toString().toCharArray()) {
            if (c == 0 || c > 126) {
                return OUTSIDE;
            }
        }
        if (page.length() + added.length() > 64) {
            return FULL;
        }
        page += added;
        return page.length();
    }

    int blank() {
        int had = page.length();
        page = "";
        return had;
    }

    private static Matcher seaOfWidth(int w, String text) {
        String row = "(?:[#h]|[0-9][nesw]?){" + w + "}";
        return Pattern.compile(row + "(?:/" + row + "){1,4}").matcher(text);
    }

    private static boolean begins(String text) {
        boolean some = false;
        for (int w = 2; w <= 6; w++) {
            Matcher m = seaOfWidth(w, text);
            some |= m.matches() || m.hitEnd();
        }
        return some && text.indexOf('h') == text.lastIndexOf('h');
    }

    int fault() {
        for (int i = 1; i <= page.length(); i++) {
            if (!begins(page.substring(0, i))) {
                return i - 1;
            }
        }
        return page.length();
    }

    int sea() {
        boolean one = page.indexOf('h') >= 0 && page.indexOf('h') == page.lastIndexOf('h');
        boolean some = false;
        for (int w = 2; w <= 6; w++) {
            some |= seaOfWidth(w, page).matches();
        }
        if (!one || !some) {
            return STATE;
        }
        sea = page;
        page = "";
        squares = new ArrayList<>();
        for (String row : sea.split("/")) {
            Matcher m = Pattern.compile("[#h]|[0-9][nesw]?").matcher(row);
            width = 0;
            while (m.find()) {
                squares.add(m.group());
                width++;
            }
        }
        ices = new ArrayList<>();
        lines = new ArrayList<>();
        kept = null;
        seas++;
        return squares.size();
    }

    private boolean isSquare(int s) {
        return s >= 0 && s < squares.size();
    }

    private int far(int s) {
        int h = squares.indexOf("h");
        return Math.abs(s / width - h / width) + Math.abs(s % width - h % width);
    }

    private int warmth(int s) {
        String t = squares.get(s);
        return t.equals("h") ? 10 : t.equals("#") ? 11 : t.charAt(0) - '0';
    }

    private int current(int s) {
        String t = squares.get(s);
        return t.length() == 2 ? WAYS.indexOf(t.charAt(1)) : NONE;
    }

    int square(int s, int what) {
        if (!isSquare(s)) {
            return UNKNOWN;
        }
        return what == 0 ? warmth(s) : what == 1 ? current(s) : what == 2 ? far(s) : OUTSIDE;
    }

    // ---- bergs, coin

    int berg(int kind, int s, int size, int foot, int n) {
        if (kind < 0 || kind > 4) {
            return OUTSIDE;
        }
        if (!isSquare(s) || warmth(s) > 9) {
            return UNKNOWN;
        }
        if (size < 10 || size > 999 || foot < 0 || foot > 99) {
            return OUTSIDE;
        }
        if (kind == 2 ? n < 2 || n > 9 : n != 0) {
            return OUTSIDE;
        }
        if (ices.size() == 5) {
            return FULL;
        }
        ices.add(new Ice(kind, s, size, foot, n));
        return ices.size() - 1;
    }

    private boolean isIce(int b) {
        return b >= 0 && b < ices.size();
    }

    int as(int b, int kind) {
        if (!isIce(b)) {
            return UNKNOWN;
        }
        if (kind < 0 || kind > 4) {
            return OUTSIDE;
        }
        int own = ices.get(b).kind();
        return kind == 0 || kind == own || own == 4 && kind == 1 ? b : NONE;
    }

    int about(int b, int what) {
        if (!isIce(b)) {
            return UNKNOWN;
        }
        Ice i = ices.get(b);
        int[] told = {i.kind(), i.square(), i.size(), i.foot(), i.n()};
        return what < 0 || what > 4 ? OUTSIDE : told[what];
    }

    int change(int b, int what, int v) {
        if (!isIce(b)) {
            return UNKNOWN;
        }
        Ice i = ices.get(b);
        if (what == 2 && v >= 10 && v <= 999) {
            ices.set(b, new Ice(i.kind(), i.square(), v, i.foot(), i.n()));
            return i.size();
        }
        if (what == 3 && v >= 0 && v <= 99) {
            ices.set(b, new Ice(i.kind(), i.square(), i.size(), v, i.n()));
            return i.foot();
        }
        return OUTSIDE;
    }

    int coin(int what, int v) {
        int[] least = {1, 0, 0};
        int[] most = {9, 9, 99};
        if (what < 0 || what > 2 || v < least[what] || v > most[what]) {
            return OUTSIDE;
        }
        int was = coins[what];
        coins[what] = v;
        return was;
    }

    // ---- tows

    private int beside(int s, char way) {
        int row = s / width;
        int column = s % width;
        row += way == 's' ? 1 : way == 'n' ? -1 : 0;
        column += way == 'e' ? 1 : way == 'w' ? -1 : 0;
        boolean on = row >= 0 && row < squares.size() / width && column >= 0 && column < width;
        return on ? row * width + column : NONE;
    }

    private List<String> allWays(int s) {
        List<String> found = new ArrayList<>();
        if (warmth(s) == 10) {
            found.add("");
            return found;
        }
        for (char way : WAYS.toCharArray()) {
            int to = beside(s, way);
            if (to != NONE && warmth(to) != 11 && far(to) < far(s)) {
                for (String rest : allWays(to)) {
                    found.add(way + rest);
                }
            }
        }
        return found;
    }

    /** One way towed: water, days and the seed then (no seed: below 0). */
    private long[] towOn(Ice ice, String way, int tugs, boolean skirt, long seed) {
        int size = ice.size();
        int foot = ice.foot();
        int days = 0;
        int s = ice.square();
        for (char step : way.toCharArray()) {
            int takes = 1 + size / (20 * tugs);
            String against = "swne";
            if (current(s) != NONE) {
                takes -= WAYS.charAt(current(s)) == step ? 1 : 0;
                takes += against.charAt(current(s)) == step ? 1 : 0;
            }
            takes = takes < 1 ? 1 : takes;
            for (int i = 0; i < takes && size > 0; i++) {
                days++;
                int warmth = warmth(s);
                if (seed >= 0) {
                    seed = BigInteger.valueOf(seed).multiply(BigInteger.valueOf(1103515245))
                        .add(BigInteger.valueOf(12345)).mod(BigInteger.valueOf(2147483648L)).longValue();
                    warmth += (int) (seed / 65536 % 3) - 1;
                    warmth = warmth < 0 ? 0 : warmth;
                }
                size = size <= melt(ice.kind(), warmth, size, skirt) ? 0 : size - melt(ice.kind(), warmth, size, skirt);
                foot = foot <= warmth ? 0 : foot - warmth;
                if (foot == 0 && ice.kind() != 4) {
                    size = size - size / 5;
                    foot = 9;
                }
                if (ice.kind() == 2 && days % ice.n() == 0) {
                    size = size - (int) Math.ceil(size / 10.0);
                }
            }
            s = beside(s, step);
        }
        return new long[] {size, days, seed};
    }

    private static int melt(int kind, int warmth, int size, boolean skirt) {
        int melt = 1 + (kind == 3 ? warmth + 1 : warmth) * size / 100;
        if (kind == 1 || kind == 4) {
            melt = melt / 2 + melt % 2;
        }
        return skirt ? melt - melt / 3 : melt;
    }

    private Towed bestWay(Ice ice, int tugs, boolean skirt) {
        Asked asked = new Asked(sea, ice, tugs, skirt, coins[0], coins[1], coins[2]);
        if (TOWS.size() > 400000) {
            TOWS.clear();
        }
        Towed known = TOWS.get(asked);
        if (known != null) {
            return known;
        }
        Towed best = null;
        for (String way : allWays(ice.square())) {
            long[] end = towOn(ice, way, tugs, skirt, -1);
            int water = (int) end[0];
            int days = (int) end[1];
            int gain = coins[0] * water - coins[1] * tugs * days - (skirt ? coins[2] : 0);
            if (best == null || gain > best.gain() || gain == best.gain() && days < best.days()) {
                best = new Towed(way, water, days, gain);
            }
        }
        TOWS.put(asked, best);
        return best;
    }

    private boolean noWay(int b) {
        return allWays(ices.get(b).square()).isEmpty();
    }

    int tow(int b, int tugs, boolean skirt, int what) {
        if (!isIce(b)) {
            return FAR + UNKNOWN;
        }
        if (tugs < 1 || tugs > 11 || !(what >= 0 && what <= 3 || what >= 10 && what <= 18)) {
            return FAR + OUTSIDE;
        }
        if (noWay(b)) {
            return FAR + NONE;
        }
        Towed t = bestWay(ices.get(b), tugs, skirt);
        if (what >= 10) {
            return what - 10 < t.way().length() ? WAYS.indexOf(t.way().charAt(what - 10)) : NONE;
        }
        return what == 0 ? t.water() : what == 1 ? t.days() : what == 2 ? t.gain() : t.way().length();
    }

    int ways(int b) {
        return isIce(b) ? allWays(ices.get(b).square()).size() : UNKNOWN;
    }

    int best(int b, int what) {
        if (!isIce(b)) {
            return FAR + UNKNOWN;
        }
        if (what < 0 || what > 2) {
            return FAR + OUTSIDE;
        }
        if (noWay(b)) {
            return FAR + NONE;
        }
        int[] best = null;
        for (int tugs = 1; tugs <= 11; tugs++) {
            for (int skirt = 0; skirt <= 1; skirt++) {
                int gain = bestWay(ices.get(b), tugs, skirt == 1).gain();
                if (best == null || gain > best[2]) {
                    best = new int[] {tugs, skirt, gain};
                }
            }
        }
        return best[what];
    }

    private int gainBy(int b, int tugs) {
        if (tugs == 0) {
            return 0;
        }
        return Math.max(bestWay(ices.get(b), tugs, false).gain(), bestWay(ices.get(b), tugs, true).gain());
    }

    /** Looks at every deal, in the order in which like ones are taken. */
    private void deals(int left, int[] dealt, int b, int gain, int[] best) {
        if (b == ices.size()) {
            if (best[0] == Integer.MIN_VALUE || gain > best[0]) {
                best[0] = gain;
                System.arraycopy(dealt, 0, best, 1, b);
            }
            return;
        }
        int most = noWay(b) ? 0 : left;
        for (int own = 0; own <= most; own++) {
            dealt[b] = own;
            deals(left - own, dealt, b + 1, gain + gainBy(b, own), best);
        }
    }

    private int[] season(int tugs) {
        int[] best = {Integer.MIN_VALUE, NONE, NONE, NONE, NONE, NONE};
        deals(tugs, new int[5], 0, 0, best);
        return best;
    }

    int season(int tugs, int what) {
        if (sea == null) {
            return STATE;
        }
        if (tugs < 1 || tugs > 11 || what < 0 || what > 5) {
            return OUTSIDE;
        }
        return season(tugs)[what];
    }

    int more(int tugs) {
        if (sea == null) {
            return STATE;
        }
        if (tugs < 1 || tugs > 10) {
            return OUTSIDE;
        }
        return season(tugs + 1)[0] - season(tugs)[0];
    }

    int drawn(int b, int tugs, boolean skirt, int seed, int what) {
        if (!isIce(b)) {
            return UNKNOWN;
        }
        if (tugs < 1 || tugs > 11 || seed < 0 || what < 0 || what > 2) {
            return OUTSIDE;
        }
        if (noWay(b)) {
            return NONE;
        }
        String way = bestWay(ices.get(b), tugs, skirt).way();
        return (int) towOn(ices.get(b), way, tugs, skirt, seed)[what];
    }

    int came(int b, int tugs, boolean skirt, int water, int what) {
        if (!isIce(b)) {
            return UNKNOWN;
        }
        if (tugs < 1 || tugs > 11 || water < 0 || water > 999 || what < 0 || what > 2) {
            return OUTSIDE;
        }
        if (noWay(b) || cames == 20) {
            return STATE;
        }
        cames++;
        Ice i = ices.get(b);
        List<Integer> sizes = new ArrayList<>();
        for (int size = 10; size <= 999; size++) {
            Ice other = new Ice(i.kind(), i.square(), size, i.foot(), i.n());
            if (bestWay(other, tugs, skirt).water() == water) {
                sizes.add(size);
            }
        }
        if (what == 0) {
            return sizes.size();
        }
        return sizes.isEmpty() ? NONE : what == 1 ? sizes.get(0) : sizes.get(sizes.size() - 1);
    }

    // ---- odds, lines

    /** The most water, times 10 for each day. */
    private static BigInteger water(int size, int days, int melt, int odds, Map<Integer, BigInteger> seen) {
        if (days == 0) {
            return BigInteger.valueOf(size);
        }
        BigInteger known = seen.get(10000 * days + size);
        if (known == null) {
            known = off(size, days, melt, odds, seen).max(held(size, days, melt, odds, seen));
            seen.put(10000 * days + size, known);
        }
        return known;
    }

    private static BigInteger off(int size, int days, int melt, int odds, Map<Integer, BigInteger> seen) {
        int left = Math.max(size - size / 5 - melt, 0);
        return BigInteger.TEN.multiply(water(left, days - 1, melt, odds, seen));
    }

    private static BigInteger held(int size, int days, int melt, int odds, Map<Integer, BigInteger> seen) {
        int left = Math.max(size - melt, 0);
        BigInteger broken = water(left - left / 3, days - 1, melt, odds, seen);
        BigInteger whole = water(left, days - 1, melt, odds, seen);
        return broken.multiply(BigInteger.valueOf(odds)).add(whole.multiply(BigInteger.valueOf(10 - odds)));
    }

    long letOff(int size, int days, int melt, int odds, int what) {
        if (size < 0 || size > 999 || days < 0 || days > 9 || melt < 0 || melt > 99) {
            return OUTSIDE;
        }
        if (odds < 0 || odds > 9 || what < 0 || what > 2) {
            return OUTSIDE;
        }
        Map<Integer, BigInteger> seen = new HashMap<>();
        if (what == 2) {
            boolean off = days > 0
                && off(size, days, melt, odds, seen).compareTo(held(size, days, melt, odds, seen)) > 0;
            return off ? 1 : 0;
        }
        BigInteger above = water(size, days, melt, odds, seen);
        BigInteger below = BigInteger.TEN.pow(days);
        BigInteger common = above.gcd(below);
        return (what == 0 ? above : below).divide(common).longValue();
    }

    int line(int house, int b, int day) {
        if (house < 0 || house > 4 || !isIce(b)) {
            return UNKNOWN;
        }
        if (day < 0 || day > 99) {
            return OUTSIDE;
        }
        if (lines.size() == 10) {
            return FULL;
        }
        lines.add(new Line(house, b, day));
        return lines.size();
    }

    int claims(int house, int b, int day, int rule, int part) {
        if (house < 0 || house > 4 || !isIce(b)) {
            return UNKNOWN;
        }
        if (day < 0 || day > 999 || rule < 0 || rule > 2 || part < 0 || part > 1) {
            return OUTSIDE;
        }
        Line first = null;
        int own = 0;
        int all = 0;
        for (Line l : lines) {
            if (l.berg() != b || l.day() >= day) {
                continue;
            }
            first = first == null || l.day() < first.day() ? l : first;
            int share = rule == 1 ? day - l.day() : 1;
            all += share;
            own += l.house() == house ? share : 0;
        }
        if (first == null) {
            return part;
        }
        if (rule == 0) {
            return part == 1 || first.house() == house ? 1 : 0;
        }
        int common = BigInteger.valueOf(own).gcd(BigInteger.valueOf(all)).intValue();
        return (part == 0 ? own : all) / common;
    }

    // ---- what is told

    int image() {
        if (sea == null) {
            return STATE;
        }
        kept = new Kept(new ArrayList<>(ices), coins.clone(), new ArrayList<>(lines));
        return ices.size();
    }

    int restore() {
        if (kept == null) {
            return STATE;
        }
        ices = new ArrayList<>(kept.ices());
        coins = kept.coins().clone();
        lines = new ArrayList<>(kept.lines());
        return ices.size();
    }

    int count(int what) {
        int[] told = {squares.size(), ices.size(), lines.size(), page.length(), coins[0], coins[1], coins[2], seas, cames};
        return what < 0 || what > 8 ? OUTSIDE : told[what];
    }

    long digest() {
        List<Integer> numbers = new ArrayList<>();
        for (int s = 0; s < squares.size(); s++) {
            for (int what = 0; what < 3; what++) {
                numbers.add(square(s, what));
            }
        }
        for (int b = 0; b < ices.size(); b++) {
            for (int what = 0; what < 5; what++) {
                numbers.add(about(b, what));
            }
            numbers.add(ways(b));
            for (int what = 0; what < 4; what++) {
                numbers.add(tow(b, 3, false, what));
            }
            for (int what = 0; what < 3; what++) {
                numbers.add(best(b, what));
            }
        }
        if (sea != null) {
            for (int told : season(5)) {
                numbers.add(told);
            }
        }
        for (Line l : lines) {
            numbers.addAll(List.of(l.house(), l.berg(), l.day()));
        }
        for (char c : page.toCharArray()) {
            numbers.add((int) c);
        }
        for (int what = 0; what < 9; what++) {
            numbers.add(count(what));
        }
        long h = 569;
        for (int number : numbers) {
            h = 31 * h + number;
        }
        return h;
    }
}
