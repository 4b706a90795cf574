import java.nio.charset.StandardCharsets;
import java.util.Arrays;
import java.util.Random;

/** Runs of some 500 calls by chance, each answer held against that of the Oracle. */
public final class OracleTests extends Suite {
    private final Random random;
    private LastsEvening x = new LastsEvening();
    private Oracle o = new Oracle();

    private OracleTests(long seed) {
        random = new Random(seed);
    }

    public static void main(String[] args) {
        int runs = args.length > 0 ? Integer.parseInt(args[0]) : 250;
        OracleTests tests = new OracleTests(args.length > 1 ? Long.parseLong(args[1]) : 1);
        for (int run = 0; run < runs; run++) {
            tests.run(run);
        }
        tests.close();
    }

    private int below(int many) {
        return random.nextInt(many);
    }

    private boolean chance(int percent) {
        return below(100) < percent;
    }

    private void run(int run) {
        x = new LastsEvening();
        o = new Oracle();
        int size = run % 10 == 9 ? 24 : 2 + run % 8;
        String house = randomHouse(size);
        int calls = feed(house) + 1;
        int fault = o.house();
        due(house + " house()", x.house(), fault);
        if (fault != 0) {
            System.out.println("a house by chance has fault " + fault + ": " + house);
        }
        due("mark(3)", x.mark(3, false), o.mark(3, false));
        calls++;
        // A step is some 60 calls at most, and what an object answers behind its 512th call is free.
        while (calls < 450) {
            if (chance(20) && (o.count(6) == 0 || o.count(1) == o.count(0))) {
                due("mark(3, true)", x.mark(3, true), o.mark(3, true));
                calls++;
            }
            calls += step(run, house);
        }
    }

    private int feed(String text) {
        byte[] signs = text.getBytes(StandardCharsets.ISO_8859_1);
        int calls = 0;
        for (int i = 0; i < signs.length; i += 24) {
            byte[] part = Arrays.copyOf(Arrays.copyOfRange(signs, i, Math.min(signs.length, i + 24)), 24);
            long a = number(part, 0);
            long b = number(part, 8);
            long c = number(part, 16);
            due("feed " + text, x.feed(a, b, c), o.feed(a, b, c));
            calls++;
        }
        return calls;
    }

    private String randomHouse(int size) {
        int quarters = 1 + below(size);
        StringBuilder text = new StringBuilder("house " + quarters + ";");
        int bowl = size == 24 ? 20 + below(60) : below(chance(50) ? 12 : 41);
        String[] lines = {"bowl " + bowl, "apples " + below(size == 24 ? 3 : 6) + " worth " + below(9), randomWorths(),
            "left " + below(9), "without " + below(20), "eggs " + below(40) + " from " + below(quarters), "word " + (1 + below(3)),
            "dark " + below(20), "rain " + below(11), "twice " + below(11)};
        for (String line : lines) {
            if (chance(75)) {
                text.append(line).append(chance(20) ? "\n;" : ";");
            }
        }
        for (int from = 0; from < quarters;) {
            int to = Math.min(quarters - 1, from + below(4));
            if (chance(85) && text.toString().split("calls").length < 9) {
                text.append("calls ").append(from).append(" to ").append(to).append(randomChances()).append(";");
            }
            from = to + 1;
        }
        for (int habits = below(5); habits > 0; habits--) {
            text.append("habit h").append("abcd".charAt(habits - 1)).append(" ").append(randomE(0)).append(";");
        }
        return text.length() > 990 ? randomHouse(size) : text.toString();
    }

    private String randomWorths() {
        int first = below(16);
        int second = below(first + 1);
        return "worths " + first + " " + second + " " + below(second + 1);
    }

    private String randomChances() {
        int[] row = new int[4];
        for (int i = 0; i < 10; i++) {
            row[chance(40) ? 0 : below(4)]++;
        }
        return " " + row[0] + " " + row[1] + " " + row[2] + " " + row[3];
    }

    private String randomE(int within) {
        StringBuilder text = new StringBuilder(randomPart(within));
        while (chance(within == 0 ? 60 : 35)) {
            String[] joins = {"+", "-", "*", "<", "=", " and ", " or "};
            String join = joins[below(7)];
            boolean single = join.equals("<") || join.equals("=");
            text.append(join).append(randomPart(within));
            if (single) {
                text.append(chance(50) ? " and " : " or ").append(randomPart(within));
            }
        }
        return text.toString();
    }

    private String randomPart(int within) {
        if (within < 5 && chance(22)) {
            return chance(50) && within < 4 ? "(" + randomE(within + 1) + ")"
                : within < 4 ? "not " + randomPart(within + 1) : String.valueOf(below(6));
        }
        String[] facts = {"toffees", "reserve", "time", "rest", "here"};
        return chance(55) ? facts[below(5)] : String.valueOf(below(chance(90) ? 6 : 10000));
    }

    private String randomEvening() {
        StringBuilder text = new StringBuilder();
        for (int lines = below(chance(5) ? 64 : 40); lines > 0; lines--) {
            String[] acts = {"come " + below(5), "give " + below(5), "quarter", "come " + below(4), "give " + below(4), "quarter",
                chance(30) ? "off" : "quarter"};
            text.append(acts[below(7)]).append(";");
        }
        return text.toString();
    }

    /** A text that is wrong somewhere, more often than not. */
    private String spoilt(String text) {
        StringBuilder wrong = new StringBuilder(text);
        String[] bits = {";", "(", ")", "not ", "9", "11", "to", "x", " ", "<", "=", "+", "*", "!", "A", "bowl 3;", "habit ", "12345",
            "abcdefghi", "here", "10", "0", "calls 0 to 0 1 2 3 4;", "house 3;"};
        for (int i = 1 + below(3); i > 0 && wrong.length() > 0; i--) {
            int at = below(wrong.length());
            if (chance(50)) {
                wrong.deleteCharAt(at);
            } else {
                wrong.insert(at, bits[below(bits.length)]);
            }
        }
        return wrong.length() > 1000 ? wrong.substring(0, 1000) : wrong.toString();
    }

    private int step(int run, String house) {
        int what = below(100);
        String told = "run " + run + " " + house + " ";
        if (what < 3) {
            String text = randomEvening();
            int calls = feed(chance(20) ? spoilt(text) : text);
            due(told + "evening() " + text, x.evening(), o.evening());
            return calls + 1;
        }
        if (what < 5) {
            String text = chance(50) ? spoilt(randomHouse(4)) : spoilt(house);
            int calls = feed(text);
            due(told + "house() " + text, x.house(), o.house());
            return calls + 1;
        }
        int a = below(7) - 1;
        if (what < 45) {
            byHand(told, what, a);
        } else {
            ask(told, what, a);
        }
        return 3 + counts(told);
    }

    /** All counts now and then, else one of them; answers how many calls that is. */
    private int counts(String told) {
        boolean all = chance(15);
        int one = below(17) - 1;
        for (int i = all ? -1 : one; i <= (all ? 15 : one); i++) {
            due(told + "count(" + i + ")", x.count(i), o.count(i));
        }
        return all ? 17 : 1;
    }

    private void byHand(String told, int what, int a) {
        boolean back = chance(40);
        if (what < 18) {
            due(told + "come(" + a + ")", x.come(a), o.come(a));
        } else if (what < 28) {
            due(told + "give(" + a + ")", answer(() -> x.give(a)), answer(() -> o.give(a)));
        } else if (what < 37) {
            due(told + "quarter()", x.quarter(), o.quarter());
        } else if (what < 38) {
            due(told + "off()", x.off(), o.off());
        } else if (what < 42) {
            due(told + "undo()", x.undo(), o.undo());
        } else {
            due(told + "mark(" + a + ", " + back + ")", x.mark(a, back || a == 3), o.mark(a, back || a == 3));
        }
        due(told + "score()", x.score(), o.score());
        due(told + "rains()", x.rains(), o.rains());
    }

    private void ask(String told, int what, int a) {
        int quarter = below(Math.min(27, o.count(0) + 3)) - 1;
        int toffees = chance(10) ? below(123) - 1 : Math.max(-1, o.count(2) - below(10) + 2);
        int bowl = o.count(2) + below(3) - 1;
        int apples = o.count(3) + below(4) - 2;
        boolean word = chance(50);
        int millionths = chance(10) ? below(3) * 1000000 - 1 : below(101) * 10000;
        int habit = chance(5) ? a : below(Math.max(1, o.count(8)));
        switch ((what - 45) / 2) {
            case 0 -> due(told + "calls", x.calls(quarter, a), o.calls(quarter, a));
            case 1 -> due(told + "judged(" + a + ")", answer(() -> x.judged(a)), answer(() -> o.judged(a)));
            case 2, 3 -> due(told + "value(" + quarter + ", " + toffees + ", " + apples + ", " + word + ")",
                answer(() -> x.value(quarter, toffees, apples, word)), answer(() -> o.value(quarter, toffees, apples, word)));
            case 4 -> due(told + "best(" + a + ")", x.best(a), o.best(a));
            case 5 -> due(told + "may(" + a + ")", answer(() -> x.may(a)), answer(() -> o.may(a)));
            case 6 -> due(told + "stay()", x.stay(), o.stay());
            case 7, 8 -> due(told + "mean(" + habit + ")", answer(() -> x.mean(habit)), answer(() -> o.mean(habit)));
            case 9 -> due(told + "left(" + habit + ")", answer(() -> x.left(habit)), answer(() -> o.left(habit)));
            case 10 -> due(told + "close(" + habit + ")", x.close(habit), o.close(habit));
            case 11 -> due(told + "surely(" + a + ")", x.surely(a), o.surely(a));
            case 12 -> due(told + "most(" + millionths + ")", x.most(millionths), o.most(millionths));
            case 13 -> due(told + "enough(" + a + ", " + millionths + ")", x.enough(a, millionths), o.enough(a, millionths));
            case 14 -> due(told + "peak(" + apples + ")", x.peak(apples), o.peak(apples));
            case 15 -> due(told + "habits()", x.habits(), o.habits());
            case 16 -> due(told + "talk()", answer(x::talk), answer(o::talk));
            case 17 -> due(told + "fence(" + toffees + ")", answer(() -> x.fence(toffees)), answer(() -> o.fence(toffees)));
            case 18 -> due(told + "tonight()", answer(x::tonight), answer(o::tonight));
            case 19, 20 -> askRead(told, habit, quarter, bowl, word ? 1 : 0);
            case 21 -> due(told + "sheets(" + bowl + ", " + a + ")", x.sheets(bowl % 11, a), o.sheets(bowl % 11, a));
            case 22, 23 -> due(told + "years(" + toffees + ", " + bowl + ", " + habit + ", " + a + ")", x.years(toffees, bowl, habit, a), o.years(toffees, bowl, habit, a));
            case 24 -> askRead(told, habit, quarter, below(30), word ? 1 : 0);
            default -> askRead(told, habit, o.count(0), bowl, a);
        }
    }

    private void askRead(String told, int habit, int quarter, int toffees, int what) {
        due(told + "read(" + habit + ", " + quarter + ", " + toffees + ", " + what + ")", x.read(habit, quarter, toffees, what),
            o.read(habit, quarter, toffees, what));
    }
}
