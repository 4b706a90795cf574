import java.util.ArrayList;
import java.util.Arrays;
import java.util.List;

/** What is told ahead, held against what then comes by hand, or against other answers that must say the same. */
public final class ByHandTests extends Suite {
    // So many come for sure in each quarter; a word brings one more.
    private static final int[] SURE = {2, 3, 0, 1, 2};
    private static final String CALLS =
        "calls 0 to 0 0 0 10 0;calls 1 to 1 0 0 0 10;calls 2 to 2 10 0 0 0;calls 3 to 3 0 10 0 0;calls 4 to 4 0 0 10 0;";
    private static final String COSTS = "worths 7 4 2;left 2;without 9;eggs 15 from 3;dark 3;";
    private static final String[] BOWLS = {"house 5;bowl 23;apples 5 worth 6;", "house 5;bowl 9;apples 3 worth 2;"};
    private static final int OFF = 5;
    // What was given in the quarters that are past.
    private static final int[][] PASTS = {{}, {0}, {2}, {4}, {1, 4}, {3, 1}, {2, 3}, {4, 4}, {1, 2, 0}, {4, 1, 0}, {2, 2, 3}, {1, 4, 0, 1}, {1, 2, 3, 2}};
    private static final Habit[] HABITS = {
        new Habit("(toffees<19)+(toffees<14)+(toffees<9)", n -> less(n[0], 19) + less(n[0], 14) + less(n[0], 9)),
        new Habit("(6<toffees)*2+(16<toffees)", n -> less(6, n[0]) * 2 + less(16, n[0])),
        new Habit("4-(reserve<3)*2-(reserve<2)", n -> 4 - less(n[1], 3) * 2 - less(n[1], 2)),
        new Habit("4*(1<reserve)+1", n -> 4 * less(1, n[1]) + 1),
        new Habit("time*3-time*time+1", n -> n[2] * 3 - n[2] * n[2] + 1),
        new Habit("rest-1", n -> n[3] - 1),
        new Habit("here", n -> n[4]),
        new Habit("5-here", n -> 5 - n[4]),
        new Habit("2", n -> 2),
        new Habit("toffees*here-reserve*7-time", n -> n[0] * n[4] - n[1] * 7 - n[2]),
    };

    /** What a habit gives, by toffees, reserve, time, rest, here. */
    interface Law {
        int of(int... facts);
    }

    record Habit(String e, Law law) {
    }

    public static void main(String[] args) {
        new ByHandTests().runAll();
    }

    private static int less(int one, int other) {
        return one < other ? 1 : 0;
    }

    private static String sure(String bowl, String word) {
        return bowl + COSTS + CALLS + word;
    }

    /** All houses with callers for sure: with the word by one, two, three and without, with many toffees and few. */
    private static List<String> sureHouses() {
        List<String> houses = new ArrayList<>();
        for (String bowl : BOWLS) {
            for (String word : new String[] {"", "word 1;", "word 2;", "word 3;"}) {
                houses.add(sure(bowl, word));
            }
        }
        return houses;
    }

    /** One quarter goes by: all who are sure to come are given so, or the light goes off. */
    private static void play(LastsEvening x, int how) {
        int many = SURE[x.count(1)] + x.count(7);
        if (how == OFF) {
            x.off();
        } else if (x.count(6) == 1) {
            x.come(many);
            if (many > 0) {
                x.give(how);
            }
        }
        x.quarter();
    }

    private static LastsEvening after(String house, int... hows) {
        LastsEvening x = in(house);
        for (int how : hows) {
            play(x, how);
        }
        return x;
    }

    private static int law(LastsEvening x, Habit habit, int many) {
        int how = habit.law.of(x.count(2), x.count(3), x.count(1), x.count(0) - x.count(1), many);
        return Math.max(0, Math.min(4, how));
    }

    /** Keeps a habit till a quarter, at whose beginning the light goes off. */
    private static LastsEvening kept(LastsEvening x, Habit habit, int until) {
        while (x.count(1) < x.count(0)) {
            play(x, x.count(1) < until ? law(x, habit, SURE[x.count(1)] + x.count(7)) : OFF);
        }
        return x;
    }

    private static int[] with(int[] hows, int how) {
        int[] more = Arrays.copyOf(hows, hows.length + 1);
        more[hows.length] = how;
        return more;
    }

    /** The greatest score of all evenings that begin so. */
    private static int greatest(String house, int... hows) {
        LastsEvening x = after(house, hows);
        if (x.count(1) == x.count(0)) {
            return x.score();
        }
        int most = Integer.MIN_VALUE;
        int last = x.count(6) == 0 ? 0 : OFF;
        for (int how = 0; how <= last; how++) {
            most = Math.max(most, greatest(house, with(hows, how)));
        }
        return most;
    }

    // MEAN, LEFT, CLOSE, HABITS: promises 16, 17, 18, 23.

    void meanIsWhatAHabitThenComesToByHand() {
        for (String house : sureHouses()) {
            for (Habit habit : HABITS) {
                String told = house + "habit a " + habit.e + ";";
                for (int[] past : PASTS) {
                    LastsEvening x = after(told, past);
                    LastsEvening y = kept(after(told, past), habit, 5);
                    due(told + " quarter " + x.count(1) + " mean", x.mean(0), 1000 * (y.score() - x.score()));
                    due(told + " quarter " + x.count(1) + " left", x.left(0), 1000 * y.count(2));
                }
            }
        }
    }

    void closeIsTheFirstOfTheBestOffsByHand() {
        for (String house : sureHouses()) {
            for (Habit habit : HABITS) {
                String told = house + "habit a " + habit.e + ";";
                for (int[] past : PASTS) {
                    int best = past.length;
                    for (int until = past.length; until <= 5; until++) {
                        if (kept(after(told, past), habit, until).score() > kept(after(told, past), habit, best).score()) {
                            best = until;
                        }
                    }
                    due(told + " quarter " + past.length + " close", after(told, past).close(0), best);
                }
            }
        }
    }

    void habitsIsTheFirstOfTheBestByHand() {
        int[][] fours = {{0, 1, 2, 3}, {4, 5, 6, 7}, {9, 8, 6, 4}, {3, 2, 5, 0}, {8, 8, 9, 9}};
        for (String house : sureHouses()) {
            for (int[] four : fours) {
                StringBuilder told = new StringBuilder(house);
                for (int i = 0; i < 4; i++) {
                    told.append("habit ").append("abcd".charAt(i)).append(' ').append(HABITS[four[i]].e).append(';');
                }
                for (int[] past : PASTS) {
                    int best = 0;
                    for (int i = 1; i < 4; i++) {
                        best = scoreBy(told, past, four[i]) > scoreBy(told, past, four[best]) ? i : best;
                    }
                    due(told + " quarter " + past.length + " habits", after(told.toString(), past).habits(), best);
                }
            }
        }
    }

    private static int scoreBy(StringBuilder house, int[] past, int habit) {
        return kept(after(house.toString(), past), HABITS[habit], 5).score();
    }

    // YEARS, READ: promises 30, 28.

    void yearsAreTheEveningsByHand() {
        for (String house : sureHouses()) {
            for (Habit habit : HABITS) {
                LastsEvening x = after(house + "habit z 1;habit a " + habit.e + ";", 1, 4);
                LastsEvening y = kept(in(house), habit, 5);
                for (int evenings = 1; evenings <= 20; evenings += 19) {
                    String told = house + habit.e + " evenings " + evenings;
                    for (int seed = 0; seed <= 9999; seed += 3333) {
                        due(told + " scores", x.years(seed, evenings, 1, 0), Math.max(0, evenings * y.score()));
                        due(told + " left", x.years(seed, evenings, 1, 1), evenings * y.count(2));
                        due(told + " without", x.years(seed, evenings, 1, 2), evenings * y.count(10));
                    }
                }
            }
        }
    }

    /** One evening's score is less than 0, the other's is more: both are counted. */
    void yearsAddUpScoresBelow0Too() {
        LastsEvening x = in("house 1;bowl 3;worths 9 0 0;left 2;calls 0 to 0 5 5 0 0;habit a 1;");
        for (int seed = 0; seed < 40; seed++) {
            long drawn = seed;
            int sum = 0;
            for (int evening = 0; evening < 7; evening++) {
                drawn = (drawn * 1103515245L + 12345L) % 2147483648L;
                // Nobody: three are left, -6; one: 9, two are left.
                sum += drawn / 65536 % 10 < 5 ? -6 : 5;
            }
            due("seed " + seed, x.years(seed, 7, 0, 0), Math.max(0, sum));
        }
    }

    void readIsTheEveningByHandWithoutApples() {
        for (String bowl : BOWLS) {
            for (String word : new String[] {"", "word 1;", "word 2;", "word 3;"}) {
                for (Habit habit : HABITS) {
                    LastsEvening x = after(sure(bowl, word) + "habit z 1;habit a " + habit.e + ";", 2, 1);
                    readByHand(x, in(sure(bowl.substring(0, bowl.indexOf("apples")), word)), habit, bowl + word);
                }
            }
        }
    }

    private void readByHand(LastsEvening x, LastsEvening y, Habit habit, String house) {
        for (int quarter = 0; quarter <= 5; quarter++) {
            String told = house + habit.e + " quarter " + quarter;
            for (int toffees = 0; toffees <= 24; toffees++) {
                boolean so = toffees == y.count(2);
                due(told + " chance of " + toffees, x.read(1, quarter, toffees, 0), so ? 1000000 : 0);
                due(told + " came by " + toffees, x.read(1, quarter, toffees, 1), so ? y.count(9) : -1);
            }
            if (quarter < 5) {
                play(y, law(y, habit, SURE[quarter] + y.count(7)));
            }
        }
    }

    void readOfAnEmptyBowlTheWordGoesRoundAllTheSame() {
        LastsEvening x = in("house 4;bowl 1;word 1;calls 0 to 3 0 10 0 0;habit a 1;");
        due("one, two, two, two", x.read(0, 4, 0, 1), 7);
    }

    void readAboveTheBowlNothingIsLeftOfAHouseBefore() {
        LastsEvening x = in("house 24;bowl 20;calls 0 to 23 2 3 3 2;habit a here;");
        for (int quarter = 1; quarter <= 24; quarter++) {
            due("before, quarter " + quarter, x.read(0, quarter, 5, 0) >= 0, true);
        }
        fed(x, "house 2;bowl 3;calls 0 to 1 2 3 3 2;habit a here-1;").house();
        for (int quarter = 0; quarter <= 2; quarter++) {
            for (int toffees = 4; toffees <= 120; toffees++) {
                due("quarter " + quarter + ", toffees " + toffees, x.read(0, quarter, toffees, 0), 0);
            }
            for (int toffees = 4; toffees <= 120; toffees += 4) {
                due("quarter " + quarter + ", toffees " + toffees + " came", x.read(0, quarter, toffees, 1), -1);
            }
        }
    }

    // VALUE, BEST, MAY, STAY: promises 12 to 15.

    void valueIsTheBestOfAllEveningsByHand() {
        for (String house : sureHouses()) {
            for (int[] past : new int[][] {{2}, {4}, {3}, {1, 4}, {3, 1}, {1, 2, 0}, {4, 1, 0}, {2, 2, 3}, {1, 4, 0, 1}, {1, 2, 3, 2}}) {
                LastsEvening x = after(house, past);
                String told = house + " quarter " + past.length + " " + x.count(2) + " toffees ";
                int off = greatest(house, with(past, OFF));
                int lit = Integer.MIN_VALUE;
                int best = 0;
                for (int how = 0; how <= 4; how++) {
                    int score = greatest(house, with(past, how));
                    best = score > lit ? how : best;
                    lit = Math.max(lit, score);
                }
                int many = SURE[past.length] + x.count(7);
                due(told + "value", x.value(past.length, x.count(2), x.count(3), x.count(7) == 1), 1000 * (Math.max(lit, off) - x.score()));
                due(told + "may", x.may(many), 1000 * (lit - x.score()));
                due(told + "best", many > 0 ? x.best(many) : 0, best);
                due(told + "stay", x.stay(), lit >= off ? 1 : 0);
            }
        }
    }

    // Houses where it is not sure who comes: one answer by others.

    private static final int[] CHANCES = {3, 1, 4, 2};
    private static final String MAYBE = "house 4;bowl 12;apples 3 worth 4;worths 9 4 2;left 3;without 8;eggs 17 from 2;dark 2;rain 4;"
        + "habit a 1;";
    // Here it is often best to give nothing, for what comes later.
    private static final String LATER = "house 4;bowl 6;apples 2 worth 9;worths 5 1 0;left 1;without 1;eggs 60 from 2;dark 50;rain 7;"
        + "habit a 1;";
    private static final String DRY = "calls 0 to 3 3 1 4 2;";
    private static final String WET = "calls 0 to 3 4 4 2 0;";

    /** States of the second, third and fourth quarter, by many ways of callers and gives in the quarters that are past. */
    private static List<LastsEvening> states(String house) {
        List<LastsEvening> all = new ArrayList<>();
        for (int first = 0; first < 20; first++) {
            all.add(reached(house, first));
            for (int second = first % 3; second < 20; second += 3) {
                all.add(reached(house, first, second));
                all.add(reached(house, first, second, (first + second) % 20));
            }
        }
        return all;
    }

    /** Of 20 a quarter: none to three came (the word's one, too), and were given so. */
    private static LastsEvening reached(String house, int... steps) {
        LastsEvening x = in(house);
        for (int step : steps) {
            int many = step / 5 + x.count(7);
            x.come(many);
            if (many > 0) {
                x.give(step % 5);
            }
            x.quarter();
        }
        return x;
    }

    private static int valueOf(LastsEvening x, LastsEvening asked, boolean word) {
        return asked.value(x.count(1), x.count(2), x.count(3), word);
    }

    private static String toldOf(LastsEvening x) {
        return "quarter " + x.count(1) + ", toffees " + x.count(2) + ", apples " + x.count(3) + ", word " + x.count(7) + " ";
    }

    void mayIsWhatIsGivenAndTheValueOfTheNextQuarter() {
        int[] bests = new int[5];
        for (String house : maybeHouses()) {
            for (LastsEvening x : states(house)) {
                for (int many = x.count(7); many <= 3 + x.count(7); many++) {
                    // Either may be what is asked first.
                    int may = x.count(2) % 2 == 0 ? x.may(many) : 0;
                    int best = many > 0 ? x.best(many) : 0;
                    may = x.count(2) % 2 == 0 ? may : x.may(many);
                    int first = -1;
                    int most = Integer.MIN_VALUE;
                    for (int how = 0; how <= (many > 0 ? 4 : 0); how++) {
                        int worth = comesToByHand(x, many, how);
                        first = worth > most ? how : first;
                        most = Math.max(most, worth);
                    }
                    due(house + toldOf(x) + "may(" + many + ")", may, most);
                    due(house + toldOf(x) + "best(" + many + ")", best, first);
                    bests[best] += many > 0 ? 1 : 0;
                }
            }
        }
        for (int how = 0; how <= 4; how++) {
            due("often " + how + " is best: " + bests[how], bests[how] > 50, true);
        }
    }

    private static List<String> maybeHouses() {
        List<String> houses = new ArrayList<>();
        for (String house : new String[] {MAYBE, LATER}) {
            for (String word : new String[] {"", "word 1;", "word 2;", "word 3;"}) {
                houses.add(house + DRY + word);
            }
        }
        return houses;
    }

    /** What is given, and the value of the quarter that comes of it; then all is undone. */
    private static int comesToByHand(LastsEvening x, int many, int how) {
        x.come(many);
        int worth = many > 0 ? 1000 * x.give(how) : 0;
        x.quarter();
        // At the end the quarter has cost what is left already.
        worth += x.value(x.count(1), x.count(2), x.count(3), x.count(7) == 1);
        x.undo();
        if (many > 0) {
            x.undo();
        }
        x.undo();
        return worth;
    }

    void meanAndLeftAreThoseOfTheNextQuarterByWhoComes() {
        for (String house : maybeHouses()) {
            for (Habit habit : HABITS) {
                String told = house.replace("habit a 1;", "habit a " + habit.e + ";");
                for (int step = 0; step < 20; step++) {
                    meanByWhoComes(reached(told), habit, told);
                    meanByWhoComes(reached(told, step), habit, told);
                    meanByWhoComes(reached(told, step, 19 - step), habit, told);
                    meanByWhoComes(reached(told, 19 - step, step, 7), habit, told);
                }
                meanByWhoComes(reached(told.replaceAll("bowl [0-9]*;apples [0-9]*", "bowl 0;apples 0")), habit, "no bowl, no apples " + told);
            }
        }
    }

    private void meanByWhoComes(LastsEvening x, Habit habit, String house) {
        int mean = x.mean(0);
        int left = x.left(0);
        int meanSum = 0;
        int leftSum = 0;
        for (int chance = 0; chance <= 3; chance++) {
            int many = chance + x.count(7);
            x.come(many);
            int worth = many > 0 ? 1000 * x.give(law(x, habit, many)) : 0;
            x.quarter();
            meanSum += CHANCES[chance] * (worth + x.mean(0));
            leftSum += CHANCES[chance] * x.left(0);
            x.undo();
            if (many > 0) {
                x.undo();
            }
            x.undo();
        }
        due(house + toldOf(x) + "mean", mean, meanSum / 10);
        due(house + toldOf(x) + "left", left, leftSum / 10);
    }

    void stayAndValueAreByTheMeanOfMay() {
        int stays = 0;
        int goesOff = 0;
        for (String word : new String[] {"", "word 1;", "word 2;", "word 3;"}) {
            List<LastsEvening> all = states(MAYBE + DRY + word);
            // Here it is dear to have the light on.
            all.addAll(states("house 4;bowl 12;apples 3 worth 1;worths 2 1 0;left 3;without 19;eggs 40 from 2;dark 2;" + DRY + word));
            for (LastsEvening x : all) {
                int sum = 0;
                for (int many = 0; many <= 3; many++) {
                    sum += CHANCES[many] * x.may(many + x.count(7));
                }
                int lit = sum / 10;
                int off = -1000 * (2 * (4 - x.count(1)) + 3 * x.count(2));
                due(word + toldOf(x) + "stay", x.stay(), lit >= off ? 1 : 0);
                due(word + toldOf(x) + "value", valueOf(x, x, x.count(7) == 1), Math.max(lit, off));
                stays += x.stay();
                goesOff += 1 - x.stay();
            }
        }
        due("often it stays: " + stays, stays > 100, true);
        due("often it does not: " + goesOff, goesOff > 100, true);
    }

    void peakIsTheFirstOfTheGreatestValues() {
        for (String word : new String[] {"", "word 1;", "word 2;"}) {
            List<LastsEvening> all = states(MAYBE + DRY + word);
            // Few toffees are best with so much that is left to cost.
            all.addAll(states("house 4;bowl 12;apples 2 worth 1;worths 2 1 0;left 30;without 90;dark 99;" + DRY + word));
            for (LastsEvening x : all) {
                for (int apples = 0; apples <= 2; apples++) {
                    int peak = 0;
                    for (int toffees = 1; toffees <= 12; toffees++) {
                        if (valueWith(x, toffees, apples) > valueWith(x, peak, apples)) {
                            peak = toffees;
                        }
                    }
                    due(word + toldOf(x) + "peak(" + apples + ")", x.peak(apples), peak);
                }
            }
        }
    }

    private static int valueWith(LastsEvening x, int toffees, int apples) {
        return x.value(x.count(1), toffees, apples, x.count(7) == 1);
    }

    /** With the word no toffee is worth less than some, without it no toffee is worth most. */
    void peakOfNoToffeesHeedsTheWordToo() {
        String house = "house 2;bowl 3;worths 0 0 0;without 9;dark 99;left 5;word 1;";
        LastsEvening x = gone(house, 1, 1);
        int[] values = {-9000, 0, 0, 0};
        for (int toffees = 0; toffees <= 3; toffees++) {
            due("word, " + toffees, x.value(1, toffees, 0, true), values[toffees]);
            due("no word, " + toffees, x.value(1, toffees, 0, false), -5000 * toffees);
        }
        due("word", x.peak(0), 1);
        due("no word", gone(house, 1, 0).peak(0), 0);
    }

    // TALK, TONIGHT, FENCE, SURELY: promises 24, 27, 25, 19 to 21.

    void talkIsByTheValuesOfAHouseWithoutWord() {
        for (String word : new String[] {"word 1;", "word 2;", "word 3;"}) {
            LastsEvening silent = in(MAYBE + DRY);
            for (LastsEvening x : states(MAYBE + DRY + word)) {
                due(word + toldOf(x) + "talk", x.talk(), valueOf(x, x, x.count(7) == 1) - valueOf(x, silent, false));
            }
        }
    }

    void tonightIsByTheValuesOfAHouseInTheWet() {
        for (String word : new String[] {"", "word 1;", "word 2;", "word 3;"}) {
            LastsEvening wet = in(MAYBE + WET + word);
            for (LastsEvening x : states(MAYBE + DRY + word)) {
                long inWet = valueOf(x, wet, x.count(7) == 1);
                long inDry = valueOf(x, x, x.count(7) == 1);
                due(word + toldOf(x) + "tonight", x.tonight(), (x.rains() * inWet + (1000000 - x.rains()) * inDry) / 1000000);
            }
        }
    }

    void rainsByThatOfTheTermsInLongEvenings() {
        int[] wet = {4, 4, 2, 0};
        for (int rain = 0; rain <= 10; rain++) {
            LastsEvening x = in("house 24;word 1;bowl 120;rain " + rain + ";calls 0 to 23 3 1 4 2;");
            long p = rain * 100000L;
            for (int quarter = 0; quarter < 24; quarter++) {
                int many = (quarter * 7 + rain) * 5 % 11 % 4;
                x.come(many + x.count(7));
                if (many == 2) {
                    x.give(1);
                }
                long inWet = p * wet[many] / 10;
                long inDry = (1000000 - p) * CHANCES[many] / 10;
                p = inWet + inDry == 0 ? p : 1000000 * inWet / (inWet + inDry);
                due("rain " + rain + ", quarter " + quarter, x.rains(), p);
                x.quarter();
            }
        }
    }

    /** OFF never helps here, and toffees left cost nothing, so that VALUE is what FENCE asks. */
    void fenceIsByTheValuesOfThreeHousesFromThisQuarterOn() {
        String costs = "worths 9 5 1;dark 99;";
        String[] once = {"calls 0 to 0 0 10 0 0;", "calls 1 to 1 10 0 0 0;", "calls 2 to 2 0 10 0 0;"};
        String[] both = {"calls 0 to 0 0 0 10 0;", "calls 1 to 1 10 0 0 0;", "calls 2 to 2 0 0 10 0;"};
        LastsEvening two = in("house 3;bowl 120;" + costs + String.join("", both));
        LastsEvening one = in("house 3;bowl 120;" + costs + String.join("", once));
        for (int here = 0; here <= 6; here++) {
            for (int theirs = 0; theirs <= 7; theirs++) {
                LastsEvening x = in("house 3;apples 3 worth 50;word 1;bowl " + here + ";" + costs + String.join("", once));
                for (int quarter = 0; quarter < 3; quarter++) {
                    long apart = one.value(quarter, here, 0, false) + one.value(quarter, theirs, 0, false);
                    due(here + " and " + theirs + " from " + quarter, x.fence(theirs), two.value(quarter, here + theirs, 0, false) - apart);
                    x.quarter();
                }
            }
        }
    }

    void fenceNotByTheCallersOfTheQuarterAhead() {
        LastsEvening x = in("house 3;bowl 3;worths 9 5 1;calls 0 to 0 0 0 0 10;calls 1 to 2 0 10 0 0;");
        x.quarter();
        // Four toffees to two in each of two quarters; apart two and one, and one.
        due("fence", x.fence(1), 36000 - 23000 - 9000);
    }

    void surelyIsWhetherNoneGoesWithoutByHand() {
        for (String house : sureHouses()) {
            for (int[] past : PASTS) {
                for (int each = 1; each <= 3; each++) {
                    LastsEvening x = after(house, past);
                    LastsEvening y = after(house, past);
                    int before = y.count(10);
                    while (y.count(1) < 5) {
                        play(y, each);
                    }
                    due(house + toldOf(x) + "surely(" + each + ")", x.surely(each), y.count(10) == before ? 1000000 : 0);
                }
            }
        }
    }

    // JUDGED, UNDO, MARKS: promises 10, 11, 31.

    /** Lines of all kinds, some of which can't be. */
    private static String lines(int seed, boolean withOff) {
        String[] lines = {"come 1;", "give 2;", "quarter;", "come 3;", "give 4;", "quarter;", "come 2;", "give 1;", "give 3;", "come 0;", "give 0;",
            "come 4;", withOff ? "off;" : "quarter;"};
        StringBuilder text = new StringBuilder();
        long drawn = seed;
        for (int i = 0; i < 20; i++) {
            drawn = (drawn * 1103515245L + 12345L) % 2147483648L;
            text.append(lines[(int) (drawn / 65536 % lines.length)]);
        }
        return text.toString();
    }

    private static boolean act(LastsEvening x, String line) {
        int number = line.indexOf(' ') < 0 ? 0 : line.charAt(line.indexOf(' ') + 1) - '0';
        switch (line.charAt(0)) {
            case 'c':
                return x.come(number);
            case 'g':
                return answer(() -> x.give(number)) != THROWS;
            case 'q':
                return x.quarter() != -1;
            default:
                return x.off();
        }
    }

    void judgedIsTheEveningByHand() {
        for (int seed = 0; seed < 300; seed++) {
            String house = maybeHouses().get(seed / 2 % 8);
            String text = lines(seed, seed % 2 == 0);
            LastsEvening y = in(house);
            int cannotBe = -1;
            int notBest = -1;
            String[] all = text.split(";");
            for (int line = 0; line < all.length; line++) {
                // In the dark BEST answers nothing by hand; that is tested elsewhere.
                int best = y.count(4) > 0 && y.count(5) == 0 ? y.best(y.count(4)) : -1;
                boolean done = act(y, all[line]);
                cannotBe = !done && cannotBe < 0 ? line : cannotBe;
                notBest = done && best >= 0 && notBest < 0 && all[line].startsWith("give") && !all[line].equals("give " + best) ? line : notBest;
            }
            LastsEvening x = on(house, text);
            due(house + text + " can't be", x.judged(0), cannotBe);
            due(house + text + " score", x.judged(2), y.score());
            if (seed % 2 == 1) {
                due(house + text + " not best", x.judged(1), notBest);
            }
        }
    }

    /** Undone so far and done again, all is as if it had not been undone. */
    void undoneAndDoneAgainAllIsAsItWas() {
        for (int seed = 0; seed < 60; seed++) {
            String house = MAYBE + DRY + (seed % 4 == 0 ? "" : "word " + seed % 4 + ";");
            // No more lines, for an object is good for 512 calls.
            String[] all = Arrays.copyOf(lines(seed, true).split(";"), 13);
            for (int back = 1; back <= 8; back++) {
                undoneAndDoneAgain(house, all, back);
            }
        }
    }

    private void undoneAndDoneAgain(String house, String[] all, int back) {
        LastsEvening x = in(house);
        List<String> done = new ArrayList<>();
        List<String> states = new ArrayList<>();
        for (String line : all) {
            String state = state(x);
            if (act(x, line)) {
                done.add(line);
                states.add(state);
            }
        }
        String last = state(x);
        int from = Math.max(0, done.size() - back);
        for (int i = done.size() - 1; i >= from; i--) {
            x.undo();
            due(house + "undone " + done.get(i), state(x), states.get(i));
        }
        for (int i = from; i < done.size(); i++) {
            act(x, done.get(i));
        }
        due(house + "done again", state(x), last);
    }

    void goneBackToAMarkAllGoesOnAsItDid() {
        for (int seed = 0; seed < 60; seed++) {
            String house = MAYBE + DRY + (seed % 4 == 0 ? "" : "word " + seed % 4 + ";");
            String[] all = lines(seed, true).split(";");
            for (int at = 0; at < 12; at++) {
                LastsEvening x = in(house);
                for (int i = 0; i < all.length; i++) {
                    if (i == at) {
                        x.mark(at % 4, false);
                    }
                    act(x, all[i]);
                }
                LastsEvening y = in(house);
                for (int i = 0; i < all.length; i++) {
                    if (i == at) {
                        // What can be undone is gone behind a mark: so it is here.
                        y.mark(at % 4, false);
                        y.mark(at % 4, true);
                    }
                    act(y, all[i]);
                }
                x.mark(at % 4, true);
                for (int i = at; i < all.length; i++) {
                    act(x, all[i]);
                }
                due(house + "marked at " + at, state(x), state(y));
            }
        }
    }
}
