import java.util.ArrayList;
import java.util.Arrays;
import java.util.HashMap;
import java.util.HashSet;
import java.util.List;
import java.util.Map;
import java.util.NoSuchElementException;
import java.util.Set;
import java.util.regex.Matcher;
import java.util.regex.Pattern;

/** A second program of the same document, slow and plain, to hold LastsEvening against. */
final class Oracle {
    static final int NONE = -1;

    interface Formula {
        int of(int toffees, int reserve, int time, int rest, int here);
    }

    static final class Fault extends RuntimeException {
        private static final long serialVersionUID = 1;
        final int number;

        Fault(int kind, int place) {
            super("fault", null, false, false);
            number = kind + 16 * place;
        }
    }

    record Token(String text, int place) {
        boolean isWord() {
            return text.matches("[a-z]{1,8}");
        }

        boolean isNumber() {
            return text.matches("[0-9]{1,4}");
        }
    }

    static final class Home {
        int quarters = 1;
        int bowl;
        int apples;
        int appleWorth;
        int[] worths = {3, 2, 1};
        int left;
        int without;
        Integer eggs;
        int eggsFrom;
        int word;
        int dark;
        int rain;
        int twice;
        int[][] chances = new int[24][];
        List<Formula> habits = new ArrayList<>();

        int chance(int quarter, int many, boolean wet) {
            int[] row = chances[quarter] == null ? new int[] {10, 0, 0, 0} : chances[quarter];
            if (!wet) {
                return row[many];
            }
            int sum = 0;
            for (int dry = 0; dry <= 3; dry++) {
                if (Math.max(0, dry - 1) == many) {
                    sum += row[dry];
                }
            }
            return sum;
        }
    }

    /** What a give does, one caller after the other. */
    static final class Gift {
        int worth;
        int toffees;
        int apples;
        int without;
        boolean word;

        Gift(Home h, int quarter, int toffees, int apples, int here, int how) {
            this.toffees = toffees;
            this.apples = apples;
            for (int i = 0; i < here; i++) {
                int got = how == 4 ? Math.min(1, this.apples) : Math.min(how, this.toffees);
                if (got == 0) {
                    without++;
                    worth -= h.eggs != null && quarter >= h.eggsFrom ? h.eggs : h.without;
                } else if (how == 4) {
                    this.apples--;
                    worth += h.appleWorth;
                } else {
                    this.toffees -= got;
                    for (int j = 0; j < got; j++) {
                        worth += h.worths[j];
                    }
                }
            }
            word = h.word > 0 && here > 0 && how <= 3 && how >= h.word;
        }
    }

    static final class Evening implements Cloneable {
        int quarter;
        int toffees;
        int apples;
        int here;
        boolean came;
        boolean given;
        boolean lit = true;
        int darkFrom = 99;
        boolean word;
        boolean wordNext;
        int rains;
        int score;
        int comers;
        int without;

        Evening(Home h) {
            toffees = h.bowl;
            apples = h.apples;
            rains = h.rain * 100000;
        }

        Evening copy() {
            try {
                return (Evening) clone();
            } catch (CloneNotSupportedException e) {
                throw new IllegalStateException(e);
            }
        }

        boolean come(Home h, int many) {
            int first = word ? 1 : 0;
            if (quarter == h.quarters || !lit || came || many < first || many > first + 3) {
                return false;
            }
            long wet = (long) rains * h.chance(quarter, many - first, true) / 10;
            long dry = (1000000L - rains) * h.chance(quarter, many - first, false) / 10;
            if (wet != 0 || dry != 0) {
                rains = (int) (1000000L * wet / (wet + dry));
            }
            came = true;
            here = many;
            comers += many;
            return true;
        }

        Integer give(Home h, int how) {
            if (how < 0 || how > 4 || here == 0 || given) {
                return null;
            }
            Gift gift = new Gift(h, quarter, toffees, apples, here, how);
            toffees = gift.toffees;
            apples = gift.apples;
            without += gift.without;
            wordNext = gift.word;
            score += gift.worth;
            given = true;
            return gift.worth;
        }

        boolean next(Home h) {
            if (quarter == h.quarters) {
                return false;
            }
            give(h, 0);
            if (quarter >= darkFrom) {
                score -= h.dark;
            }
            quarter++;
            word = wordNext;
            wordNext = false;
            here = 0;
            came = false;
            given = false;
            if (quarter == h.quarters) {
                score -= toffees * h.left;
            }
            return true;
        }

        boolean off(Home h) {
            if (!lit || quarter == h.quarters) {
                return false;
            }
            lit = false;
            darkFrom = came ? quarter + 1 : quarter;
            return true;
        }
    }

    record Line(String act, int number) {
    }

    record Laid(Evening evening, List<Line> lines) {
    }

    private final StringBuilder tape = new StringBuilder();
    private Home home = new Home();
    private List<Line> lines = new ArrayList<>();
    private Evening now = new Evening(home);
    private final List<Evening> past = new ArrayList<>();
    private final Laid[] marks = new Laid[4];
    private final Map<List<Object>, Long> memo = new HashMap<>();

    // The tape.

    int feed(long... numbers) {
        for (long number : numbers) {
            for (int i = 7; i >= 0; i--) {
                int sign = (int) (number >>> 8 * i) & 255;
                if ((sign == 10 || sign >= 32 && sign <= 126) && tape.length() < 1000) {
                    tape.append((char) sign);
                }
            }
        }
        return tape.length();
    }

    private static final Pattern TOKEN = Pattern.compile("[a-z]+|[0-9]+|[^ \n]");

    private List<Token> tokens;
    private int tokenAt;
    private static final Set<String> KEYWORDS = new HashSet<>(Arrays.asList(
        ("house bowl apples worth worths left without eggs from word dark rain twice calls to habit come give quarter off "
            + "not and or").split(" ")));
    private static final List<String> FACTS = List.of("toffees", "reserve", "time", "rest", "here");

    private void cut() {
        tokens = new ArrayList<>();
        Matcher m = TOKEN.matcher(tape);
        while (m.find()) {
            tokens.add(new Token(m.group(), m.start()));
        }
        tokens.add(new Token("", tape.length()));
        tokenAt = 0;
        tape.setLength(0);
    }

    private Token token() {
        return tokens.get(tokenAt);
    }

    private Token take() {
        return tokens.get(tokenAt++);
    }

    private Fault fault(int kind) {
        return new Fault(kind, token().place());
    }

    private void expect(String text) {
        if (!token().text().equals(text)) {
            throw fault(1);
        }
        take();
    }

    private int number(int low, int high) {
        if (!token().isNumber()) {
            throw fault(1);
        }
        int number = Integer.parseInt(token().text());
        if (number < low || number > high) {
            throw fault(4);
        }
        take();
        return number;
    }

    int house() {
        cut();
        Home read = new Home();
        try {
            readHouse(read);
        } catch (Fault f) {
            return f.number;
        }
        home = read;
        lines = new ArrayList<>();
        now = new Evening(home);
        past.clear();
        Arrays.fill(marks, null);
        memo.clear();
        return 0;
    }

    private void readHouse(Home h) {
        expect("house");
        h.quarters = number(1, 24);
        expect(";");
        Set<String> told = new HashSet<>();
        Set<String> names = new HashSet<>();
        int callsTold = 0;
        while (!token().text().isEmpty()) {
            String word = token().text();
            switch (word) {
                case "calls" -> {
                    if (++callsTold > 8) {
                        throw fault(5);
                    }
                    take();
                    readCalls(h);
                }
                case "habit" -> {
                    if (h.habits.size() == 4) {
                        throw fault(5);
                    }
                    take();
                    if (!token().isWord() || KEYWORDS.contains(token().text())) {
                        throw fault(1);
                    }
                    if (!names.add(token().text())) {
                        throw fault(3);
                    }
                    take();
                    h.habits.add(readE(0));
                }
                case "bowl", "apples", "worths", "left", "without", "eggs", "word", "dark", "rain", "twice" -> {
                    if (!told.add(word)) {
                        throw fault(3);
                    }
                    take();
                    readOne(h, word);
                }
                default -> throw fault(1);
            }
            expect(";");
        }
    }

    private void readOne(Home h, String word) {
        switch (word) {
            case "bowl" -> h.bowl = number(0, 120);
            case "apples" -> {
                h.apples = number(0, 12);
                expect("worth");
                h.appleWorth = number(0, 99);
            }
            case "worths" -> {
                int first = number(0, 99);
                int second = number(0, first);
                h.worths = new int[] {first, second, number(0, second)};
            }
            case "left" -> h.left = number(0, 99);
            case "without" -> h.without = number(0, 99);
            case "eggs" -> {
                h.eggs = number(0, 99);
                expect("from");
                h.eggsFrom = number(0, h.quarters - 1);
            }
            case "word" -> h.word = number(1, 3);
            case "dark" -> h.dark = number(0, 99);
            case "rain" -> h.rain = number(0, 10);
            default -> h.twice = number(0, 10);
        }
    }

    private void readCalls(Home h) {
        int from = number(0, h.quarters - 1);
        expect("to");
        int at = tokenAt;
        int to = number(from, h.quarters - 1);
        for (int q = from; q <= to; q++) {
            if (h.chances[q] != null) {
                tokenAt = at;
                throw fault(3);
            }
        }
        int[] row = {number(0, 10), number(0, 10), number(0, 10), 0};
        at = tokenAt;
        row[3] = number(0, 10);
        if (Arrays.stream(row).sum() != 10) {
            tokenAt = at;
            throw fault(4);
        }
        for (int q = from; q <= to; q++) {
            h.chances[q] = row;
        }
    }

    private static int bit(boolean is) {
        return is ? 1 : 0;
    }

    private Formula readE(int within) {
        Formula one = readTest(within);
        while (token().text().equals("and") || token().text().equals("or")) {
            boolean and = take().text().equals("and");
            Formula a = one;
            Formula b = readTest(within);
            one = (t, r, q, y, n) -> {
                boolean x = a.of(t, r, q, y, n) != 0;
                boolean z = b.of(t, r, q, y, n) != 0;
                return bit(and ? x && z : x || z);
            };
        }
        return one;
    }

    private Formula readTest(int within) {
        Formula a = readSum(within);
        String sign = token().text();
        if (!sign.equals("<") && !sign.equals("=")) {
            return a;
        }
        take();
        Formula b = readSum(within);
        return sign.equals("<") ? (t, r, q, y, n) -> bit(a.of(t, r, q, y, n) < b.of(t, r, q, y, n))
            : (t, r, q, y, n) -> bit(a.of(t, r, q, y, n) == b.of(t, r, q, y, n));
    }

    private Formula readSum(int within) {
        Formula one = readProduct(within);
        while (token().text().equals("+") || token().text().equals("-")) {
            int by = take().text().equals("+") ? 1 : -1;
            Formula a = one;
            Formula b = readProduct(within);
            one = (t, r, q, y, n) -> a.of(t, r, q, y, n) + by * b.of(t, r, q, y, n);
        }
        return one;
    }

    private Formula readProduct(int within) {
        Formula one = readPart(within);
        while (token().text().equals("*")) {
            take();
            Formula a = one;
            Formula b = readPart(within);
            one = (t, r, q, y, n) -> a.of(t, r, q, y, n) * b.of(t, r, q, y, n);
        }
        return one;
    }

    private Formula readPart(int within) {
        String text = token().text();
        boolean opens = text.equals("(") || text.equals("not");
        if (!opens && !token().isNumber() && !FACTS.contains(text)) {
            throw fault(1);
        }
        if (within == 5) {
            throw fault(5);
        }
        take();
        if (text.equals("(")) {
            Formula inner = readE(within + 1);
            expect(")");
            return inner;
        }
        if (text.equals("not")) {
            Formula inner = readPart(within + 1);
            return (t, r, q, y, n) -> bit(inner.of(t, r, q, y, n) == 0);
        }
        return switch (text) {
            case "toffees" -> (t, r, q, y, n) -> t;
            case "reserve" -> (t, r, q, y, n) -> r;
            case "time" -> (t, r, q, y, n) -> q;
            case "rest" -> (t, r, q, y, n) -> y;
            case "here" -> (t, r, q, y, n) -> n;
            default -> {
                int number = Integer.parseInt(text);
                yield (t, r, q, y, n) -> number;
            }
        };
    }

    int evening() {
        cut();
        List<Line> read = new ArrayList<>();
        try {
            while (!token().text().isEmpty()) {
                String act = token().text();
                if (!List.of("come", "give", "quarter", "off").contains(act)) {
                    throw fault(1);
                }
                if (read.size() == 60) {
                    throw fault(5);
                }
                take();
                read.add(new Line(act, act.equals("come") || act.equals("give") ? number(0, 4) : 0));
                expect(";");
            }
        } catch (Fault f) {
            return f.number;
        }
        lines = read;
        return 0;
    }

    // By hand.

    int calls(int quarter, int many) {
        return quarter < 0 || quarter >= home.quarters || many < 0 || many > 3 ? NONE : home.chance(quarter, many, false);
    }

    private boolean done(Evening before, boolean was) {
        if (was) {
            past.add(before);
            if (past.size() > 16) {
                past.remove(0);
            }
        }
        return was;
    }

    boolean come(int many) {
        return done(now.copy(), now.come(home, many));
    }

    int give(int how) {
        Evening before = now.copy();
        Integer worth = now.give(home, how);
        if (worth == null) {
            throw new NoSuchElementException();
        }
        done(before, true);
        return worth;
    }

    int quarter() {
        return done(now.copy(), now.next(home)) ? now.quarter : NONE;
    }

    boolean off() {
        return done(now.copy(), now.off(home));
    }

    boolean undo() {
        if (past.isEmpty()) {
            return false;
        }
        now = past.remove(past.size() - 1);
        return true;
    }

    int judged(int what) {
        if (what < 0 || what > 2) {
            throw new NoSuchElementException();
        }
        Evening e = new Evening(home);
        int cannotBe = NONE;
        int notBest = NONE;
        for (int i = 0; i < lines.size(); i++) {
            Line line = lines.get(i);
            Evening before = e.copy();
            boolean was = switch (line.act()) {
                case "come" -> e.come(home, line.number());
                case "give" -> e.give(home, line.number()) != null;
                case "quarter" -> e.next(home);
                default -> e.off(home);
            };
            if (!was && cannotBe < 0) {
                cannotBe = i;
            }
            if (was && line.act().equals("give") && notBest < 0 && bestOf(before, before.here) != line.number()) {
                notBest = i;
            }
        }
        return List.of(cannotBe, notBest, e.score).get(what);
    }

    // The best to give.

    private int bestOf(Evening e, int here) {
        int best = 0;
        for (int how = 1; how <= 4; how++) {
            if (byGive(e.quarter, e.toffees, e.apples, here, how, "dry") > byGive(e.quarter, e.toffees, e.apples, here, best, "dry")) {
                best = how;
            }
        }
        return best;
    }

    private long byGive(int q, int t, int a, int here, int how, String night) {
        Gift gift = new Gift(home, q, t, a, here, how);
        return 1000L * gift.worth + worth(q + 1, gift.toffees, gift.apples, gift.word && !night.equals("wordless"), night);
    }

    private long end(int t) {
        return -1000L * home.left * t;
    }

    private long offNow(int q, int t) {
        return -1000L * home.dark * (home.quarters - q) + end(t);
    }

    private long lit(int q, int t, int a, boolean w, String night) {
        long sum = 0;
        for (int many = 0; many <= 3; many++) {
            int here = many + bit(w);
            long most = Long.MIN_VALUE;
            for (int how = 0; how <= 4; how++) {
                most = Math.max(most, byGive(q, t, a, here, how, night));
            }
            sum += home.chance(q, many, night.equals("wet")) * most;
        }
        return sum / 10;
    }

    private long worth(int q, int t, int a, boolean w, String night) {
        if (q == home.quarters) {
            return end(t);
        }
        List<Object> key = List.of(q, t, a, w, night);
        Long known = memo.get(key);
        if (known == null) {
            known = Math.max(offNow(q, t), lit(q, t, a, w, night));
            memo.put(key, known);
        }
        return known;
    }

    private void check(boolean fine) {
        if (!fine) {
            throw new NoSuchElementException();
        }
    }

    private boolean open() {
        return now.lit && now.quarter < home.quarters;
    }

    private boolean habitThere(int habit) {
        return habit >= 0 && habit < home.habits.size();
    }

    int value(int q, int t, int a, boolean w) {
        check(q >= 0 && q <= home.quarters && t >= 0 && t <= home.bowl && a >= 0 && a <= home.apples);
        return (int) worth(q, t, a, w, "dry");
    }

    int best(int here) {
        return here < 1 || here > 4 || !open() ? NONE : bestOf(now, here);
    }

    int may(int here) {
        check(here >= 0 && here <= 4 && open());
        return (int) byGive(now.quarter, now.toffees, now.apples, here, here == 0 ? 0 : bestOf(now, here), "dry");
    }

    int stay() {
        return !open() ? NONE
            : bit(lit(now.quarter, now.toffees, now.apples, now.word, "dry") >= offNow(now.quarter, now.toffees));
    }

    private int given(int habit, int q, int t, int a, int here) {
        int how = home.habits.get(habit).of(t, a, q, home.quarters - q, here);
        return how < 0 ? 0 : how > 4 ? 4 : how;
    }

    private long byHabit(int habit, int q, int t, int a, boolean w, int offAt, boolean left) {
        if (q == home.quarters) {
            return left ? 1000L * t : end(t);
        }
        if (q == offAt) {
            return offNow(q, t);
        }
        List<Object> key = List.of("habit", habit, q, t, a, w, offAt, left);
        if (!memo.containsKey(key)) {
            long sum = 0;
            for (int many = 0; many <= 3; many++) {
                int here = many + bit(w);
                Gift gift = new Gift(home, q, t, a, here, here == 0 ? 0 : given(habit, q, t, a, here));
                sum += home.chance(q, many, false)
                    * ((left ? 0 : 1000L * gift.worth) + byHabit(habit, q + 1, gift.toffees, gift.apples, gift.word, offAt, left));
            }
            memo.put(key, sum / 10);
        }
        return memo.get(key);
    }

    private long meanNow(int habit, int offAt) {
        return byHabit(habit, now.quarter, now.toffees, now.apples, now.word, offAt, false);
    }

    int mean(int habit) {
        check(habitThere(habit) && now.lit);
        return (int) meanNow(habit, 99);
    }

    int left(int habit) {
        check(habitThere(habit) && now.lit);
        return (int) byHabit(habit, now.quarter, now.toffees, now.apples, now.word, 99, true);
    }

    int close(int habit) {
        if (!habitThere(habit) || !now.lit) {
            return NONE;
        }
        int best = home.quarters;
        for (int q = home.quarters - 1; q >= now.quarter; q--) {
            if (meanNow(habit, q) >= meanNow(habit, best)) {
                best = q;
            }
        }
        return best;
    }

    private long sure(int each, int q, int t, boolean w) {
        if (q == home.quarters) {
            return 1000000;
        }
        List<Object> key = List.of("sure", each, q, t, w);
        if (!memo.containsKey(key)) {
            long sum = 0;
            for (int many = 0; many <= 3; many++) {
                Gift gift = new Gift(home, q, t, 0, many + bit(w), each);
                sum += gift.without > 0 ? 0 : home.chance(q, many, false) * sure(each, q + 1, gift.toffees, gift.word);
            }
            memo.put(key, sum / 10);
        }
        return memo.get(key);
    }

    int surely(int each) {
        return each < 1 || each > 3 || !now.lit ? NONE : (int) sure(each, now.quarter, now.toffees, now.word);
    }

    int most(int millionths) {
        if (millionths < 0 || millionths > 1000000 || !now.lit) {
            return NONE;
        }
        int most = NONE;
        for (int each = 1; each <= 3; each++) {
            most = sure(each, now.quarter, now.toffees, now.word) >= millionths ? each : most;
        }
        return most;
    }

    int enough(int each, int millionths) {
        if (each < 1 || each > 3 || millionths < 0 || millionths > 1000000 || !now.lit) {
            return NONE;
        }
        int t = 0;
        while (t <= home.bowl && sure(each, now.quarter, t, now.word) < millionths) {
            t++;
        }
        return t > home.bowl ? NONE : t;
    }

    int peak(int apples) {
        if (apples < 0 || apples > home.apples || !open()) {
            return NONE;
        }
        int peak = home.bowl;
        for (int t = home.bowl; t >= 0; t--) {
            if (worth(now.quarter, t, apples, now.word, "dry") >= worth(now.quarter, peak, apples, now.word, "dry")) {
                peak = t;
            }
        }
        return peak;
    }

    int habits() {
        if (!now.lit || home.habits.isEmpty()) {
            return NONE;
        }
        int best = 0;
        for (int habit = 0; habit < home.habits.size(); habit++) {
            if (meanNow(habit, 99) > meanNow(best, 99)) {
                best = habit;
            }
        }
        return best;
    }

    int talk() {
        check(open());
        return (int) (worth(now.quarter, now.toffees, now.apples, now.word, "dry")
            - worth(now.quarter, now.toffees, now.apples, false, "wordless"));
    }

    private long plain(int q, int t, boolean two) {
        if (q == home.quarters) {
            return end(t);
        }
        List<Object> key = List.of("plain", q, t, two);
        if (!memo.containsKey(key)) {
            long sum = 0;
            for (int ours = 0; ours <= 3; ours++) {
                for (int theirs = 0; theirs <= (two ? 3 : 0); theirs++) {
                    long most = Long.MIN_VALUE;
                    for (int how = 0; how <= 3; how++) {
                        Gift gift = new Gift(home, q, t, 0, ours + theirs, how);
                        most = Math.max(most, 1000L * gift.worth + plain(q + 1, gift.toffees, two));
                    }
                    sum += home.chance(q, ours, false) * (two ? home.chance(q, theirs, false) : 10) * most;
                }
            }
            memo.put(key, sum / 100);
        }
        return memo.get(key);
    }

    int fence(int toffees) {
        check(toffees >= 0 && toffees <= 120 && open());
        return (int) (plain(now.quarter, now.toffees + toffees, true) - plain(now.quarter, now.toffees, false)
            - plain(now.quarter, toffees, false));
    }

    int rains() {
        return now.rains;
    }

    int tonight() {
        check(open());
        long wet = worth(now.quarter, now.toffees, now.apples, now.word, "wet");
        long dry = worth(now.quarter, now.toffees, now.apples, now.word, "dry");
        return (int) ((now.rains * wet + (1000000 - now.rains) * dry) / 1000000);
    }

    int read(int habit, int quarter, int toffees, int what) {
        if (!habitThere(habit) || quarter < 0 || quarter > home.quarters || toffees < 0 || toffees > 120 || what < 0 || what > 1) {
            return NONE;
        }
        Map<List<Integer>, Long> chances = Map.of(List.of(home.bowl, 0, 0), 1000000L);
        for (int q = 0; q < quarter; q++) {
            Map<List<Integer>, Long> sums = new HashMap<>();
            for (Map.Entry<List<Integer>, Long> old : chances.entrySet()) {
                for (int many = 0; many <= 3; many++) {
                    int t = old.getKey().get(0);
                    int here = many + old.getKey().get(2);
                    Gift gift = new Gift(home, q, t, 0, here, here == 0 ? 0 : given(habit, q, t, 0, here));
                    sums.merge(List.of(gift.toffees, old.getKey().get(1) + here, bit(gift.word)),
                        old.getValue() * home.chance(q, many, false), Long::sum);
                }
            }
            sums.replaceAll((k, v) -> v / 10);
            chances = sums;
        }
        long all = 0;
        long[] byComers = new long[100];
        for (Map.Entry<List<Integer>, Long> e : chances.entrySet()) {
            if (e.getKey().get(0) == toffees) {
                all += e.getValue();
                byComers[e.getKey().get(1)] += e.getValue();
            }
        }
        if (what == 0) {
            return (int) all;
        }
        long most = Arrays.stream(byComers).max().getAsLong();
        for (int comers = 0; comers < 100; comers++) {
            if (most > 0 && byComers[comers] == most) {
                return comers;
            }
        }
        return NONE;
    }

    int sheets(int callers, int twice) {
        if (callers < 0 || callers > 8 || twice < 0 || twice > callers) {
            return NONE;
        }
        long sum = 0;
        for (int which = 0; which < 1 << callers; which++) {
            if (Integer.bitCount(which) == twice) {
                long product = 1;
                for (int i = 0; i < callers; i++) {
                    product *= (which >> i & 1) == 1 ? home.twice : 10 - home.twice;
                }
                sum += product;
            }
        }
        return (int) (sum * 1000000L / Math.round(Math.pow(10, callers)));
    }

    int years(int seed, int evenings, int habit, int what) {
        if (seed < 0 || seed > 9999 || evenings < 1 || evenings > 20 || !habitThere(habit) || what < 0 || what > 2) {
            return NONE;
        }
        long g = seed;
        int[] sums = new int[3];
        for (int i = 0; i < evenings; i++) {
            Evening e = new Evening(home);
            while (e.quarter < home.quarters) {
                g = (g * 1103515245L + 12345L) % (1L << 31);
                int draw = (int) (g / 65536 % 10);
                int many = 0;
                while (draw >= home.chance(e.quarter, many, false)) {
                    draw -= home.chance(e.quarter, many, false);
                    many++;
                }
                int here = many + bit(e.word);
                e.come(home, here);
                if (here > 0) {
                    e.give(home, given(habit, e.quarter, e.toffees, e.apples, here));
                }
                e.next(home);
            }
            sums[0] += e.score;
            sums[1] += e.toffees;
            sums[2] += e.without;
        }
        return Math.max(0, sums[what]);
    }

    boolean mark(int mark, boolean back) {
        if (mark < 0 || mark > 3 || back && marks[mark] == null) {
            return false;
        }
        if (back) {
            now = marks[mark].evening().copy();
            lines = marks[mark].lines();
            past.clear();
        } else {
            marks[mark] = new Laid(now.copy(), lines);
        }
        return true;
    }

    int score() {
        return now.score;
    }

    int count(int what) {
        int[] all = {home.quarters, now.quarter, now.toffees, now.apples, now.here, bit(now.given), bit(now.lit), bit(now.word),
            home.habits.size(), now.comers, now.without, lines.size(), past.size(), tape.length(), bit(now.came)};
        return what >= 0 && what < all.length ? all[what] : NONE;
    }
}
