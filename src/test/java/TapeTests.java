/** Each boundary that the document names of TAPE, TOKENS, HOUSE, EVENING, E and FAULTS, in a test named after the word and the boundary. */
public final class TapeTests extends Suite {
    private static final String KEYWORDS = "house bowl apples worth worths left without eggs from word dark rain twice calls to habit come "
        + "give quarter off not and or";
    private static final String[] ONCE = {"bowl 1;", "apples 1 worth 1;", "worths 1 1 1;", "left 1;", "without 1;", "eggs 1 from 0;", "word 1;",
        "dark 1;", "rain 1;", "twice 1;"};
    private static final String FOUR_HABITS = "house 2;habit a 1;habit b 1;habit c 1;habit d 1;";

    public static void main(String[] args) {
        new TapeTests().runAll();
    }

    /** A number of a house from low to high is taken, those beside it are fault 4 at its place. */
    private void number(String before, int low, int high, String behind) {
        int place = before.length();
        due(before + low + behind, houseFault(before + low + behind), 0);
        due(before + high + behind, houseFault(before + high + behind), 0);
        due(before + (high + 1) + behind, houseFault(before + (high + 1) + behind), 4 + 16 * place);
        due(before + "9999" + behind, houseFault(before + "9999" + behind), 4 + 16 * place);
        if (low > 0) {
            due(before + (low - 1) + behind, houseFault(before + (low - 1) + behind), 4 + 16 * place);
        }
        due(before + "-1" + behind, houseFault(before + "-1" + behind), 1 + 16 * place);
        due(before + "a" + behind, houseFault(before + "a" + behind), 1 + 16 * place);
        due(before + ";", houseFault(before + ";"), 1 + 16 * place);
    }

    /** The fault of a formula, its place told from the formula's first sign on. */
    private void formulaFault(String e, int kind, int place) {
        String before = "house 2;habit a ";
        due(e, houseFault(before + e + ";"), kind == 0 ? 0 : kind + 16 * (before.length() + place));
    }

    private static String calls(int many) {
        StringBuilder text = new StringBuilder("house 24;");
        for (int i = 0; i < many; i++) {
            text.append("calls ").append(i).append(" to ").append(i).append(" 10 0 0 0;");
        }
        return text.toString();
    }

    // TAPE.

    void tapeTakesItsThousandthSign() {
        LastsEvening x = fed(new LastsEvening(), " ".repeat(999) + "!");
        due("signs", x.count(13), 1000);
        due("it is the 1,000th", x.evening(), 1 + 16 * 999);
    }

    void tapeLeavesOutItsThousandAndFirstSign() {
        LastsEvening x = fed(new LastsEvening(), " ".repeat(1000) + "!");
        due("signs", x.count(13), 1000);
        due("it isn't there", x.evening(), 0);
    }

    void tapeTakesOfOneFeedWhatFitsYet() {
        LastsEvening x = fed(new LastsEvening(), " ".repeat(984));
        due("16 of 24 signs", x.feed(0x2020202020202020L, 0x2020202020202021L, 0x3f3f3f3f3f3f3f3fL), 1000);
        due("the first 16", x.evening(), 1 + 16 * 999);
    }

    void tapeFullIsAHouseOfAThousandSigns() {
        due("a house", houseFault("house 1;" + " ".repeat(987) + "left;"), 1 + 16 * 999);
        due("a house", houseFault("house 1;" + " ".repeat(985) + "left 1;"), 0);
        due("one sign too many", houseFault("house 1;" + " ".repeat(986) + "left 1;"), 1 + 16 * 1000);
    }

    void tapeTakesSigns10And32To126Alone() {
        for (int sign = 0; sign < 256; sign++) {
            boolean taken = sign == 10 || sign >= 32 && sign <= 126;
            due("sign " + sign + " of a, highest", new LastsEvening().feed((long) sign << 56, 0, 0), taken ? 1 : 0);
            due("sign " + sign + " of b", new LastsEvening().feed(0, (long) sign << 24, 0), taken ? 1 : 0);
            due("sign " + sign + " of c, lowest", new LastsEvening().feed(0, 0, sign), taken ? 1 : 0);
        }
    }

    void tapeSignsLeftOutLeaveNoGap() {
        LastsEvening x = fed(new LastsEvening(), "ho\tus\0e\r \u00e41;");
        due("signs", x.count(13), 8);
        due("house 1;", x.house(), 0);
    }

    void tapeIsEmptyBehindAHouse() {
        due("signs", in("house 1;").count(13), 0);
    }

    void tapeIsEmptyBehindAFaultOfAHouse() {
        LastsEvening x = fed(new LastsEvening(), "house 0;bowl 1;");
        due("a fault", x.house(), 4 + 16 * 6);
        due("signs", x.count(13), 0);
        due("read again", x.house(), 1);
    }

    void tapeIsEmptyBehindAnEvening() {
        LastsEvening x = on("house 1;", "off;");
        due("signs", x.count(13), 0);
        due("read again: no lines", x.evening(), 0);
        due("no lines", x.count(11), 0);
    }

    void tapeIsEmptyBehindAFaultOfAnEvening() {
        LastsEvening x = fed(new LastsEvening(), "off;off");
        due("a fault", x.evening(), 1 + 16 * 7);
        due("signs", x.count(13), 0);
    }

    void tapeStaysByWhatDoesNotReadIt() {
        LastsEvening x = fed(new LastsEvening(), "house 2");
        x.come(1);
        x.give(1);
        x.mark(0, false);
        x.quarter();
        x.undo();
        x.mark(0, true);
        x.judged(2);
        due("signs", x.count(13), 7);
        due("it goes on", fed(x, "4;").house(), 0);
        due("house 24", x.count(0), 24);
    }

    // TOKENS.

    void tokensWordOfEightLetters() {
        due("eight", houseFault("house 1;habit abcdefgh 1;"), 0);
    }

    void tokensWordOfNineLettersIsNone() {
        due("nine", houseFault("house 1;habit abcdefghi 1;"), 1 + 16 * 14);
        due("a line's word and more", houseFault("house 1;withouttt 1;"), 1 + 16 * 8);
        due("nine, beginning with a word", houseFault("house 1;habit a toffeesss;"), 1 + 16 * 16);
    }

    void tokensWordIsAsLongAsCanBe() {
        due("housea", houseFault("housea 1;"), 1);
        due("nota is a name", houseFault("house 1;habit nota 1;"), 0);
        due("notimes is no part", houseFault("house 1;habit a notime;"), 1 + 16 * 16);
        due("not time is", houseFault("house 1;habit a not time;"), 0);
    }

    void tokensWordsDifferInTheirLastLetter() {
        due("eight letters", houseFault("house 1;habit zzzzzzzy 1;habit zzzzzzzz 1;habit zzzzzzz 1;"), 0);
        due("their first letter", houseFault("house 1;habit azzzzzzz 1;habit bzzzzzzz 1;"), 0);
    }

    void tokensNumberOfFourDigits() {
        due("0024", houseFault("house 0024;"), 0);
        due("9999", houseFault("house 1;habit a 9999;"), 0);
    }

    void tokensNumberOfFiveDigitsIsNone() {
        due("00001", houseFault("house 00001;"), 1 + 16 * 6);
        due("10000", houseFault("house 1;habit a 10000;"), 1 + 16 * 16);
        due("ten digits", houseFault("house 1;habit a 1+4294967297;"), 1 + 16 * 18);
    }

    void tokensNumberIsAsLongAsCanBe() {
        due("12 is one", houseFault("house 12;"), 0);
        due("1 2 are two", houseFault("house 1 2;"), 1 + 16 * 8);
    }

    void tokensLetterMayStandRightBehindANumber() {
        due("1worth", houseFault("house 2;apples 1worth 2;eggs 1from 1;calls 0to 1 10 0 0 0;"), 0);
        due("four digits and a letter", houseFault("house 1;habit a 0001and 1;"), 0);
        due("five digits and a letter", houseFault("house 1;habit a 00001and 1;"), 1 + 16 * 16);
    }

    void tokensDigitMayStandRightBehindAWord() {
        due("house2", houseFault("house2;bowl2;habit a1;"), 0);
    }

    void tokensBlanksAre10And32() {
        due("10", houseFault("\nhouse\n1\n;\n"), 0);
        due("32", houseFault(" house 1 ; "), 0);
        due("none", houseFault("house1;left1;"), 0);
        due("many", houseFault("house \n \n 1  \n;"), 0);
    }

    void tokensBlankParts() {
        due("a word", houseFault("ho use 1;"), 1);
        due("the second half", houseFault("house 1;le ft 1;"), 1 + 16 * 8);
        due("a number", houseFault("house 1;bowl 1 2;"), 1 + 16 * 15);
    }

    void tokensOtherSignsAreNone() {
        for (char sign = '!'; sign <= '~'; sign++) {
            if (!Character.isLetterOrDigit(sign) && "()<=+-*;".indexOf(sign) < 0 || sign >= 'A' && sign <= 'Z') {
                due("house" + sign, houseFault("house " + sign), 1 + 16 * 6);
                due("evening" + sign, eveningFault(sign + "off;"), 1);
                formulaFault("1" + sign + "1", 1, 1);
            }
        }
    }

    void tokensTheEightSigns() {
        formulaFault("(1)<1", 0, 0);
        formulaFault("1=1", 0, 0);
        formulaFault("1+1", 0, 0);
        formulaFault("1-1", 0, 0);
        formulaFault("1*1", 0, 0);
        formulaFault("1;", 1, 2);
    }

    void tokensBesideTheLettersAndDigits() {
        due("` ahead of a", houseFault("house 1;habit ` 1;"), 1 + 16 * 14);
        due("{ behind z", houseFault("house 1;habit { 1;"), 1 + 16 * 14);
        due("z", houseFault("house 1;habit z 1;habit a 1;"), 0);
        due("/ ahead of 0", houseFault("house /;"), 1 + 16 * 6);
        due(": behind 9", houseFault("house :;"), 1 + 16 * 6);
        due("9", houseFault("house 9;"), 0);
    }

    // HOUSE.

    void houseQuarters1To24() {
        number("house ", 1, 24, ";");
        due("1", in("house 1;").count(0), 1);
        due("24", in("house 24;").count(0), 24);
    }

    void houseQuartersAreNumberedFrom0() {
        LastsEvening x = in("house 24;calls 0 to 0 0 10 0 0;calls 23 to 23 0 0 10 0;");
        due("the first", x.calls(0, 1), 10);
        due("the last", x.calls(23, 2), 10);
        due("none behind it", x.calls(24, 0), -1);
    }

    void houseBowl0To120() {
        number("house 2;bowl ", 0, 120, ";");
        due("0", in("house 2;bowl 0;").count(2), 0);
        due("120", in("house 2;bowl 120;").count(2), 120);
        due("untold", in("house 2;").count(2), 0);
    }

    void houseApples0To12() {
        number("house 2;apples ", 0, 12, " worth 1;");
        due("0", in("house 2;apples 0 worth 1;").count(3), 0);
        due("12", in("house 2;apples 12 worth 1;").count(3), 12);
        due("untold", in("house 2;").count(3), 0);
    }

    void houseAnApplesWorth0To99() {
        number("house 2;apples 1 worth ", 0, 99, ";");
        LastsEvening x = in("house 2;apples 1 worth 99;");
        x.come(1);
        due("99", x.give(4), 99);
        LastsEvening y = in("house 2;apples 1 worth 0;without 9;");
        y.come(1);
        due("0", y.give(4), 0);
        due("gets something all the same", y.count(10), 0);
    }

    void houseFirstWorth0To99() {
        number("house 2;worths ", 0, 99, " 0 0;");
    }

    void houseSecondWorthNotAboveTheFirst() {
        number("house 2;worths 7 ", 0, 7, " 0;");
        number("house 2;worths 99 ", 0, 99, " 0;");
        number("house 2;worths 0 ", 0, 0, " 0;");
    }

    void houseThirdWorthNotAboveTheSecond() {
        number("house 2;worths 9 4 ", 0, 4, ";");
        number("house 2;worths 99 99 ", 0, 99, ";");
        number("house 2;worths 9 0 ", 0, 0, ";");
    }

    void houseWorthsUntoldAre321() {
        int[] worths = {0, 3, 5, 6};
        for (int how = 0; how <= 3; how++) {
            LastsEvening x = in("house 1;bowl 9;");
            x.come(1);
            due("give " + how, x.give(how), worths[how]);
        }
    }

    void houseWorths99() {
        LastsEvening x = in("house 1;bowl 9;worths 99 99 99;");
        x.come(3);
        due("nine toffees", x.give(3), 891);
    }

    void houseLeft0To99() {
        number("house 2;left ", 0, 99, ";");
        due("99", over("house 2;bowl 120;left 99;").score(), -99 * 120);
        due("0", over("house 2;bowl 120;left 0;").score(), 0);
        due("untold", over("house 2;bowl 120;").score(), 0);
    }

    void houseWithout0To99() {
        number("house 2;without ", 0, 99, ";");
        int[] costs = {99, 0, 0};
        String[] lines = {"without 99;", "without 0;", ""};
        for (int i = 0; i < 3; i++) {
            LastsEvening x = in("house 2;" + lines[i]);
            x.come(3);
            due(lines[i], x.give(0), -3 * costs[i]);
        }
    }

    void houseEggs0To99() {
        number("house 2;eggs ", 0, 99, " from 0;");
        LastsEvening x = in("house 2;without 5;eggs 99 from 0;");
        x.come(1);
        due("99", x.give(0), -99);
        LastsEvening y = in("house 2;without 5;eggs 0 from 0;");
        y.come(1);
        due("0", y.give(0), 0);
        LastsEvening z = in("house 2;without 5;");
        z.come(1);
        due("untold", z.give(0), -5);
    }

    void houseEggsFromAQuarterOn() {
        number("house 2;eggs 1 from ", 0, 1, ";");
        number("house 24;eggs 1 from ", 0, 23, ";");
        int[] worths = {-5, -7, -7};
        LastsEvening x = in("house 3;without 5;eggs 7 from 1;");
        for (int quarter = 0; quarter < 3; quarter++) {
            x.come(1);
            due("quarter " + quarter, x.give(0), worths[quarter]);
            x.quarter();
        }
    }

    void houseWord1To3() {
        number("house 2;word ", 1, 3, ";");
    }

    void houseWordUntoldNoneGoesRound() {
        due("the word", gone("house 2;bowl 9;", 3, 3).count(7), 0);
    }

    void houseDark0To99() {
        number("house 2;dark ", 0, 99, ";");
        due("99", ended(dark("house 24;dark 99;")).score(), -99 * 24);
        due("0", ended(dark("house 24;dark 0;")).score(), 0);
        due("untold", ended(dark("house 24;")).score(), 0);
    }

    void houseRain0To10() {
        number("house 2;rain ", 0, 10, ";");
        due("0", in("house 2;rain 0;").rains(), 0);
        due("10", in("house 2;rain 10;").rains(), 1000000);
        due("untold", in("house 2;").rains(), 0);
    }

    void houseTwice0To10() {
        number("house 2;twice ", 0, 10, ";");
        due("0", in("house 2;twice 0;").sheets(1, 1), 0);
        due("10", in("house 2;twice 10;").sheets(1, 1), 1000000);
        due("untold", in("house 2;").sheets(1, 1), 0);
    }

    void houseCallsFromAQuarter() {
        number("house 1;calls ", 0, 0, " to 0 10 0 0 0;");
        number("house 24;calls ", 0, 23, " to 23 10 0 0 0;");
    }

    void houseCallsToNoLess() {
        number("house 1;calls 0 to ", 0, 0, " 10 0 0 0;");
        number("house 24;calls 0 to ", 0, 23, " 10 0 0 0;");
        number("house 24;calls 7 to ", 7, 23, " 10 0 0 0;");
        number("house 24;calls 23 to ", 23, 23, " 10 0 0 0;");
    }

    void houseCallsHoldFromTheFirstToTheLastOfThem() {
        LastsEvening x = in("house 5;calls 1 to 3 1 2 3 4;");
        int[] chances = {10, 1, 1, 1, 10};
        for (int quarter = 0; quarter < 5; quarter++) {
            due("quarter " + quarter, x.calls(quarter, 0), chances[quarter]);
            due("quarter " + quarter + ", three", x.calls(quarter, 3), chances[quarter] == 1 ? 4 : 0);
        }
    }

    void houseChances0To10() {
        for (int i = 0; i < 4; i++) {
            String[] row = {"0", "0", "0", "0"};
            row[i] = "10";
            due("10", houseFault("house 2;calls 0 to 1 " + String.join(" ", row) + ";"), 0);
            row[i] = "11";
            due("11", houseFault("house 2;calls 0 to 1 " + String.join(" ", row) + ";"), 4 + 16 * (21 + 2 * i));
        }
    }

    void houseChancesAre10Together() {
        String before = "house 2;calls 0 to 1 ";
        due("10", houseFault(before + "1 2 3 4;"), 0);
        due("9", houseFault(before + "1 2 3 3;"), 4 + 16 * 27);
        due("11", houseFault(before + "1 2 3 5;"), 4 + 16 * 27);
        due("0", houseFault(before + "0 0 0 0;"), 4 + 16 * 27);
        due("20", houseFault(before + "0 0 10 10;"), 4 + 16 * 28);
        due("11 ahead of the last", houseFault(before + "5 5 1 0;"), 4 + 16 * 27);
        due("told at the last, not ahead of it", houseFault(before + "5 6;"), 1 + 16 * 24);
    }

    void houseNoQuarterOfCallsTwice() {
        String one = "house 9;calls 3 to 5 10 0 0 0;";
        String[] spans = {"5 to 8", "3 to 3", "0 to 3", "0 to 8", "4 to 4", "5 to 5", "3 to 5"};
        for (String span : spans) {
            due(span, houseFault(one + "calls " + span + " 10 0 0 0;"), 3 + 16 * (one.length() + 11));
        }
        due("the first", houseFault("house 9;calls 0 to 0 10 0 0 0;calls 0 to 0 10 0 0 0;"), 3 + 16 * 41);
        due("the last", houseFault("house 9;calls 8 to 8 10 0 0 0;calls 0 to 8 10 0 0 0;"), 3 + 16 * 41);
        due("the first, a longer one", houseFault("house 9;calls 0 to 0 10 0 0 0;calls 0 to 8 10 0 0 0;"), 3 + 16 * 41);
        due("beside it", houseFault(one + "calls 6 to 8 10 0 0 0;calls 0 to 2 10 0 0 0;"), 0);
    }

    void houseEightCalls() {
        due("eight", houseFault(calls(8)), 0);
        due("eight, and others", houseFault(calls(8) + "bowl 1;habit a 1;"), 0);
        due("eight again in another house", fed(in(calls(8)), calls(8)).house(), 0);
        LastsEvening x = fed(in(calls(8)), calls(9));
        due("behind a ninth", x.house(), 5 + 16 * calls(8).length());
        due("behind its fault", fed(x, calls(8)).house(), 0);
    }

    void houseNineCalls() {
        due("nine", houseFault(calls(9)), 5 + 16 * calls(8).length());
        due("nine, whatever they are", houseFault(calls(8) + "calls 99"), 5 + 16 * calls(8).length());
    }

    void houseFourHabits() {
        due("four", in(FOUR_HABITS).count(8), 4);
        due("none", in("house 2;").count(8), 0);
    }

    void houseFiveHabits() {
        due("five", houseFault(FOUR_HABITS + "habit e 1;"), 5 + 16 * FOUR_HABITS.length());
        due("five, whatever it is", houseFault(FOUR_HABITS + "habit house"), 5 + 16 * FOUR_HABITS.length());
    }

    void houseHabitsAreNumberedAsTold() {
        LastsEvening x = in("house 1;bowl 3;calls 0 to 0 0 10 0 0;habit d 3;habit a 0;habit c 2;habit b 1;");
        int[] means = {6000, 0, 5000, 3000};
        for (int habit = 0; habit < 4; habit++) {
            due("habit " + habit, x.mean(habit), means[habit]);
        }
    }

    void houseAllOthersOnceEach() {
        for (String line : ONCE) {
            due("once " + line, houseFault("house 3;" + line), 0);
            due("twice " + line, houseFault("house 3;" + line + line), 3 + 16 * (8 + line.length()));
            String word = line.substring(0, line.indexOf(' '));
            due("twice, whatever it is " + line, houseFault("house 3;" + line + "habit a 1;" + word), 3 + 16 * (18 + line.length()));
        }
    }

    void houseLinesInAnyOrder() {
        StringBuilder ahead = new StringBuilder("house 3;");
        StringBuilder back = new StringBuilder();
        for (String line : ONCE) {
            ahead.append(line);
            back.insert(0, line);
        }
        due("ahead", houseFault(ahead + "calls 0 to 2 10 0 0 0;habit a 1;"), 0);
        due("back", houseFault("house 3;habit a 1;calls 0 to 2 10 0 0 0;" + back), 0);
    }

    void houseNoLinesBehindTheFirst() {
        due("house 1 alone", houseFault("house 1;"), 0);
    }

    void houseNameIsAnotherWord() {
        for (String word : KEYWORDS.split(" ")) {
            due("no name " + word, houseFault("house 3;habit " + word + " 1;"), 1 + 16 * 14);
            if (word.length() < 8) {
                due("a name " + word + "x", houseFault("house 3;habit " + word + "x 1;"), 0);
            }
        }
        for (String word : new String[] {"toffees", "reserve", "time", "rest", "here"}) {
            due("a fact is a name " + word, houseFault("house 3;habit " + word + " " + word + ";"), 0);
        }
    }

    void houseNoTwoNamesAreAlike() {
        due("two", houseFault("house 3;habit a 1;habit a 1;"), 3 + 16 * 24);
        due("the first and the fourth", houseFault("house 3;habit a 1;habit b 1;habit c 1;habit a 1;"), 3 + 16 * 44);
        due("not alike", houseFault("house 3;habit a 1;habit aa 1;habit b 1;habit ab 1;"), 0);
        due("not alike", houseFault("house 3;habit b 1;habit ba 1;habit bba 1;habit bb 1;"), 0);
        LastsEvening x = in("house 3;habit a 1;");
        due("another house", fed(x, "house 3;habit a 1;").house(), 0);
        fed(x, "house 3;habit b 1;habit b").house();
        due("behind a fault", fed(x, "house 3;habit b 1;").house(), 0);
    }

    // EVENING.

    void eveningCome0To4() {
        due("come 0", eveningFault("come 0;"), 0);
        due("come 4", eveningFault("come 4;"), 0);
        due("come 5", eveningFault("come 5;"), 4 + 16 * 5);
        due("come -1", eveningFault("come -1;"), 1 + 16 * 5);
    }

    void eveningGive0To4() {
        due("give 0", eveningFault("give 0;"), 0);
        due("give 4", eveningFault("give 4;"), 0);
        due("give 5", eveningFault("give 5;"), 4 + 16 * 5);
        due("give -1", eveningFault("give -1;"), 1 + 16 * 5);
    }

    void eveningOfNoLines() {
        LastsEvening x = on("house 1;", "off;");
        due("empty", x.evening(), 0);
        due("no lines", x.count(11), 0);
        due("blanks", fed(x, " \n ").evening(), 0);
    }

    void eveningOf60Lines() {
        due("60", on("house 1;", "off;".repeat(60)).count(11), 60);
        due("60 of all kinds", on("house 1;", "come 1;give 1;quarter;off;".repeat(15)).count(11), 60);
    }

    void eveningOf61Lines() {
        due("61", eveningFault("off;".repeat(61)), 5 + 16 * 240);
        due("whatever it is", eveningFault("off;".repeat(60) + "come 9"), 5 + 16 * 240);
        due("what can't stand there is 1", eveningFault("off;".repeat(60) + "bowl"), 1 + 16 * 240);
        due("a sign, too", eveningFault("off;".repeat(60) + ";"), 1 + 16 * 240);
        due("an earlier fault goes before", eveningFault("off 1;" + "off;".repeat(60)), 1 + 16 * 4);
    }

    void eveningLinesOfAHouseCantStandThere() {
        for (String word : "house bowl habit calls not toffees x worth from to".split(" ")) {
            due(word, eveningFault("off;" + word + " 1;"), 1 + 16 * 4);
        }
    }

    void eveningNumbersWhereTheyAreTold() {
        due("come", eveningFault("come;"), 1 + 16 * 4);
        due("give", eveningFault("give;"), 1 + 16 * 4);
        due("quarter 1", eveningFault("quarter 1;"), 1 + 16 * 8);
        due("off 1", eveningFault("off 1;"), 1 + 16 * 4);
        due("come 1 1", eveningFault("come 1 1;"), 1 + 16 * 7);
        due("no sign", eveningFault("come 1 quarter;"), 1 + 16 * 7);
        due("no blanks", eveningFault("come1;give1;quarter;off;"), 0);
    }

    // E.

    void eAndOrFromTheLeft() {
        due("1 or 1 and 0", given("1 or 1 and 0"), 0);
        due("0 and 0 or 1", given("0 and 0 or 1"), 1);
        due("0 and (0 or 1)", given("0 and (0 or 1)"), 0);
        due("1 or (1 and 0)", given("1 or (1 and 0)"), 1);
    }

    void eSumsFromTheLeft() {
        due("5-2-1", given("5-2-1"), 2);
        due("5-(2-1)", given("5-(2-1)"), 4);
        due("1-1+1", given("1-1+1"), 1);
    }

    void eProductsBeforeSumsBeforeTestsBeforeAndOr() {
        due("1+1*2", given("1+1*2"), 3);
        due("2*1+1", given("2*1+1"), 3);
        due("(1+1)*2", given("(1+1)*2"), 4);
        due("1<1+1", given("1<1+1"), 1);
        due("1+1<1", given("1+1<1"), 0);
        due("0=0 and 2=2", given("0=0 and 2=2"), 1);
        due("2=1+1 or 0", given("2=1+1 or 0"), 1);
    }

    void eNotIsOfThePartAlone() {
        due("not 0+2", given("not 0+2"), 3);
        due("not 1+2", given("not 1+2"), 2);
        due("not 0*3", given("not 0*3"), 3);
        due("not 1=0", given("not 1=0"), 1);
        due("not (1=0)", given("not (1=0)"), 1);
        due("not (0<1)", given("not (0<1)"), 0);
    }

    void eOfNotAndOrLessSameComes1Or0() {
        String[] ones = {"not 0", "(3 and 2)", "(0 or 7)", "(1<9)", "(8=8)"};
        String[] noughts = {"not 9", "(3 and 0)", "(0 or 0)", "(9<1)", "(8=7)"};
        for (int i = 0; i < 5; i++) {
            due(ones[i], given(ones[i] + "+2"), 3);
            due(noughts[i], given(noughts[i] + "+2"), 2);
            due(ones[i] + " times 2", given(ones[i] + "*2"), 2);
        }
    }

    void eLessAndSameAtTheirEdge() {
        due("1<2", given("1<2"), 1);
        due("2<2", given("2<2"), 0);
        due("3<2", given("3<2"), 0);
        due("2=2", given("2=2"), 1);
        due("1=2", given("1=2"), 0);
        due("3=2", given("3=2"), 0);
        due("less than 0", given("0-1<0"), 1);
    }

    void eWhatIsNot0IsSo() {
        due("not 0", given("not 0"), 1);
        due("not 1", given("not 1"), 0);
        due("not 2", given("not 2"), 0);
        due("not less than 0", given("not(0-1)"), 0);
        due("3 and 2 is 1", given("3 and 2"), 1);
        due("(0-1) and 1", given("(0-1) and 1"), 1);
        due("1 and (0-1)", given("1 and (0-1)"), 1);
        due("(0-1) or 0", given("(0-1) or 0"), 1);
        due("0 or (0-1)", given("0 or (0-1)"), 1);
        due("0 and (0-1)", given("0 and (0-1)"), 0);
        due("0 and 2", given("0 and 2"), 0);
        due("2 and 0", given("2 and 0"), 0);
        due("0 or 2 is 1", given("0 or 2"), 1);
        due("2 or 0 is 1", given("2 or 0"), 1);
        due("0 or 0", given("0 or 0"), 0);
        due("not not 3 is 1", given("not not 3"), 1);
    }

    void eProductsWrap() {
        due("2,099,580,021", given("9999*9999*21<0"), 0);
        due("2,199,560,022 wraps", given("9999*9999*22<0"), 1);
        due("2 to the 32nd is 0", given("256*256*256*256"), 0);
        due("2 to the 32nd and 3", given("256*256*256*256+3"), 3);
    }

    void eSumsWrap() {
        due("2,147,483,647 is above 0", given("0<8192*8192*31+(8192*8192-1)"), 1);
        due("one more is below", given("8192*8192*31+(8192*8192-1)+1<0"), 1);
        due("wrapped it is the least", given("8192*8192*31+8192*8192=8192*8192*32"), 1);
    }

    void eDifferencesWrap() {
        due("-2,147,483,648 is below 0", given("8192*8192*32<0"), 1);
        due("one less is above", given("0<8192*8192*32-1"), 1);
        due("what is less is not told by what is wrapped", given("8192*8192*32<1"), 1);
    }

    void eFactsInTheFirstQuarter() {
        String[] facts = {"toffees=40", "reserve=3", "time=0", "rest=5", "here=2"};
        for (String fact : facts) {
            due(fact, given(fact), 1);
        }
    }

    void eFactsInTheLastQuarter() {
        String house = "house 3;bowl 9;apples 2 worth 0;worths 1 0 0;calls 0 to 0 0 0 10 0;calls 2 to 2 0 10 0 0;";
        String[] facts = {"toffees=7", "reserve=2", "time=2", "rest=1", "here=1"};
        for (String fact : facts) {
            due(fact, in(house + "habit a (time=0)+(time=2)*(" + fact + ");").mean(0), 3000);
        }
    }

    void eHereIsTheOneOfTheWordToo() {
        String house = "house 2;bowl 9;worths 1 0 0;word 1;calls 0 to 0 0 0 0 10;calls 1 to 1 0 0 0 10;";
        due("four", in(house + "habit a (here=3)+(here=4);").mean(0), 7000);
        due("three, then not three", in(house + "habit a here=3;").mean(0), 3000);
    }

    void eNumberOfOneToFourDigits() {
        due("0", given("0"), 0);
        due("0004", given("0004"), 4);
        due("9999", given("9999-9998"), 1);
    }

    void eOneTestOfTwoSums() {
        formulaFault("1<2", 0, 0);
        formulaFault("1<2<3", 1, 3);
        formulaFault("1=2=3", 1, 3);
        formulaFault("1<2=3", 1, 3);
        formulaFault("(1<2)<3", 0, 0);
        formulaFault("1<2 and 2<3 or 3=4", 0, 0);
    }

    void ePartsThatLack() {
        formulaFault("", 1, 0);
        formulaFault("-1", 1, 0);
        formulaFault("1+", 1, 2);
        formulaFault("1 and", 1, 5);
        formulaFault("and 1", 1, 0);
        formulaFault("not", 1, 3);
        formulaFault("()", 1, 1);
        formulaFault("1*;", 1, 2);
        formulaFault("1<", 1, 2);
        formulaFault("+", 1, 0);
    }

    void eOtherWordsThanFactsAndNotAreNoParts() {
        String words = "house bowl apples worth worths left without eggs from word dark rain twice calls to habit come give quarter off and or";
        for (String word : (words + " a toffee heres").split(" ")) {
            formulaFault(word, 1, 0);
            formulaFault("1+" + word, 1, 2);
            formulaFault("not (" + word + ")", 1, 5);
        }
        for (String fact : "toffees reserve time rest here".split(" ")) {
            formulaFault("1+not (" + fact + ")", 0, 0);
        }
    }

    void ePartsTooMany() {
        formulaFault("1 1", 1, 2);
        formulaFault("1 not 1", 1, 2);
        formulaFault("1(1)", 1, 1);
        formulaFault("(1)1", 1, 3);
        formulaFault("here here", 1, 5);
    }

    void eBrackets() {
        formulaFault("(1", 1, 2);
        formulaFault("1)", 1, 1);
        formulaFault("(1))", 1, 3);
        formulaFault("((1)", 1, 4);
        formulaFault(")", 1, 0);
        formulaFault("(1 2)", 1, 3);
        formulaFault("(1 or 2 and (3))", 0, 0);
    }

    void ePartWithin4Others() {
        formulaFault("((((1))))", 0, 0);
        formulaFault("not not not not 1", 0, 0);
        formulaFault("(not(not here))", 0, 0);
        formulaFault("((((toffees))))+((((rest))))", 0, 0);
        formulaFault("not not not not 1 and not not not not 1", 0, 0);
    }

    void ePartWithin5Others() {
        formulaFault("(((((1)))))", 5, 5);
        formulaFault("(((((here)))))", 5, 5);
        formulaFault("not not not not not 1", 5, 20);
        formulaFault("(not(not(1)))", 5, 9);
        formulaFault("((((1+(1)))))", 5, 7);
        formulaFault("((((1+not 1))))", 5, 10);
        formulaFault("1+((((1<(1)))))", 5, 9);
    }

    void eNotWithin5Others() {
        formulaFault("(((((not", 5, 5);
        formulaFault("not not not not not not 1", 5, 20);
        formulaFault("((((not not 1))))", 5, 8);
    }

    void eBracketWithin5Others() {
        formulaFault("((((((1))))))", 5, 5);
        formulaFault("((((1)+(((1))))))", 5, 9);
        formulaFault("(not(not((1))))", 5, 9);
    }

    void eWithinIsTheSameBehindEachSignAndWord() {
        for (String join : new String[] {"*", "+", "-", "<", "=", " and ", " or "}) {
            int behind = 5 + join.length();
            formulaFault("((((1" + join + "2))))", 0, 0);
            formulaFault("((((1" + join + "(2)))))", 5, behind + 1);
            formulaFault("((((1" + join + "not 2))))", 5, behind + 4);
            formulaFault("1" + join + "((((2))))", 0, 0);
            formulaFault("1" + join + "(((((2)))))", 5, behind + 1);
            formulaFault("1" + join + "not not not not not 2", 5, behind + 16);
        }
    }

    void eWithinDoesNotCountPartsBeside() {
        for (String join : new String[] {"*", "+", "-", " and ", " or "}) {
            formulaFault(("1" + join).repeat(12) + "1", 0, 0);
            formulaFault("((((" + ("1" + join).repeat(12) + "1))))", 0, 0);
            formulaFault(("((((1))))" + join).repeat(7) + "((((1))))", 0, 0);
            formulaFault("((((" + ("1" + join).repeat(12) + "(1)))))", 5, 4 + 12 * (1 + join.length()) + 1);
        }
    }

    void eWithin5OthersWhatCantStandThereIs1() {
        formulaFault("(((((;", 1, 5);
        formulaFault("((((()", 1, 5);
        formulaFault("(((((bowl", 1, 5);
        formulaFault("(((((12345", 1, 5);
        formulaFault("(((((and", 1, 5);
        formulaFault("(((((!", 1, 5);
        due("the end", houseFault("house 2;habit a ((((("), 1 + 16 * 21);
    }

    // FAULTS.

    void faultsPlaceFrom0() {
        due("the first sign", houseFault("x"), 1);
        due("behind blanks", houseFault(" \n x"), 1 + 16 * 3);
        due("the first sign of the token", houseFault("house 1;  leftt"), 1 + 16 * 10);
    }

    void faultsTheEndIsOneAtTheTextsLength() {
        due("nothing", houseFault(""), 1);
        due("blanks", houseFault("   "), 1 + 16 * 3);
        due("in the first line", houseFault("house 1"), 1 + 16 * 7);
        due("behind blanks", houseFault("house 1 \n"), 1 + 16 * 9);
        due("in an evening", eveningFault("come "), 1 + 16 * 5);
        due("of a full tape", houseFault("house 1" + " ".repeat(993)), 1 + 16 * 1000);
    }

    void faultsTheFirstTokenFromTheLeft() {
        due("4 ahead of 1", houseFault("house 1;bowl 121 x"), 4 + 16 * 13);
        due("1 ahead of 4", houseFault("house 1;x 121;bowl 121;"), 1 + 16 * 8);
        due("4 ahead of 3", houseFault("house 1;bowl 1;left 100;bowl 1;"), 4 + 16 * 20);
        due("5 ahead of 3", houseFault("house 1;bowl 1;habit a (((((1;bowl 1;"), 5 + 16 * 28);
    }

    void faultsTheLeastOfOneToken() {
        due("a number that is none", houseFault("house 99999;"), 1 + 16 * 6);
        due("house again, the words of no line twice", houseFault("house 1;house 1;"), 1 + 16 * 8);
        due("a word told already where it can't stand", houseFault("house 1;bowl 1;apples 1 bowl 1;"), 1 + 16 * 24);
        due("where a sign lacks", houseFault("house 1;bowl 1;left 1 bowl 1;"), 1 + 16 * 22);
        due("a fifth habit where it can't stand", houseFault(FOUR_HABITS + "left habit"), 1 + 16 * (FOUR_HABITS.length() + 5));
        due("a ninth calls where it can't stand", houseFault(calls(8) + "left calls"), 1 + 16 * (calls(8).length() + 5));
        due("a name told already that is none", houseFault("house 1;habit a 1;habit bowl 1;"), 1 + 16 * 24);
        due("a 61st line's word where it can't stand", eveningFault("off;".repeat(59) + "come off"), 1 + 16 * 241);
        due("the end for a 61st line is none", eveningFault("off;".repeat(60)), 0);
    }

    void faultsAnotherLineThanHouseFirst() {
        for (String line : ONCE) {
            due(line, houseFault(line + "house 3;"), 1);
        }
        due("habit", houseFault("habit a 1;house 3;"), 1);
        due("calls", houseFault("calls 0 to 0 10 0 0 0;house 1;"), 1);
        due("a sign", houseFault(";house 1;"), 1);
    }

    void faultsHouseAgain() {
        due("at once", houseFault("house 1;house 1;"), 1 + 16 * 8);
        due("at last", houseFault("house 1;bowl 1;house"), 1 + 16 * 15);
    }

    void faultsAQuarterOfCallsThatHasSome() {
        String one = "house 9;calls 3 to 5 10 0 0 0;calls ";
        due("at its second number", houseFault(one + "5 to 6 1 1;"), 3 + 16 * (one.length() + 5));
        due("not as told: less", houseFault(one + "4 to 3 10 0 0 0;"), 4 + 16 * (one.length() + 5));
        due("not as told: beyond", houseFault(one + "4 to 9 10 0 0 0;"), 4 + 16 * (one.length() + 5));
        due("not told", houseFault(one + "4 to x"), 1 + 16 * (one.length() + 5));
        due("not at its first number", houseFault(one + "4 4"), 1 + 16 * (one.length() + 2));
        due("behind a fault of the same line none has some", houseFault(one + "9 to 9 10 0 0 0;"), 4 + 16 * one.length());
    }

    void faultsWordsOfALineThatLack() {
        due("worth", houseFault("house 1;apples 1 1;"), 1 + 16 * 17);
        due("from", houseFault("house 1;eggs 1 0;"), 1 + 16 * 15);
        due("to", houseFault("house 1;calls 0 0"), 1 + 16 * 16);
        due("from for to", houseFault("house 1;calls 0 from 0"), 1 + 16 * 16);
        due("a name", houseFault("house 1;habit 1;"), 1 + 16 * 14);
        due("a formula", houseFault("house 1;habit a;"), 1 + 16 * 15);
        due("a third worth", houseFault("house 1;worths 1 1;"), 1 + 16 * 18);
    }

    void faultsASignThatLacks() {
        for (String line : ONCE) {
            String text = "house 1;" + line.substring(0, line.length() - 1);
            due(line, houseFault(text), 1 + 16 * text.length());
            due(line + " a number for it", houseFault(text + " 1;"), 1 + 16 * (text.length() + 1));
        }
    }

    // Without a FAULT a HOUSE is the HOUSE.

    private static LastsEvening anew() {
        LastsEvening x = on("house 4;bowl 9;apples 3 worth 2;without 4;eggs 9 from 1;dark 3;left 2;word 1;rain 5;twice 5;"
            + "calls 0 to 3 1 2 3 4;habit a 1;habit b 2;", "come 1;give 1;");
        x.come(2);
        x.give(1);
        x.mark(0, false);
        x.mark(3, false);
        x.quarter();
        x.come(2);
        x.give(4);
        x.off();
        fed(x, "house 2;bowl 7;apples 1 worth 5;").house();
        return x;
    }

    void houseAnewQuarter0() {
        due("quarters", anew().count(0), 2);
        due("quarter", anew().count(1), 0);
    }

    void houseAnewNobodyHere() {
        due("here", anew().count(4), 0);
        due("given to", anew().count(5), 0);
        due("none came in this quarter", anew().count(14), 0);
        due("how many came", anew().count(9), 0);
        due("went without", anew().count(10), 0);
    }

    void houseAnewAllThere() {
        due("toffees", anew().count(2), 7);
        due("apples", anew().count(3), 1);
        due("score", anew().score(), 0);
    }

    void houseAnewTheLightOn() {
        due("light", anew().count(6), 1);
        due("word", anew().count(7), 0);
        LastsEvening x = anew();
        x.quarter();
        due("it isn't dark", x.score(), 0);
    }

    void houseAnewNoEvening() {
        due("lines", anew().count(11), 0);
        due("judged", anew().judged(2), 0);
    }

    void houseAnewNothingRead() {
        due("no habit to read by", anew().read(0, 0, 7, 0), -1);
        LastsEvening x = anew();
        fed(x, "house 2;bowl 3;calls 0 to 1 0 10 0 0;habit a 1;").house();
        due("read anew", x.read(0, 1, 2, 0), 1000000);
        due("not as before", x.read(0, 1, 8, 0), 0);
    }

    void houseAnewNothingCanBeUndone() {
        due("count", anew().count(12), 0);
        due("undo", anew().undo(), false);
    }

    void houseAnewNoMarkIsThere() {
        for (int mark = 0; mark < 4; mark++) {
            due("mark " + mark, anew().mark(mark, true), false);
        }
    }

    void houseAnewNothingOfTheOneBefore() {
        LastsEvening x = anew();
        due("rains", x.rains(), 0);
        due("sheets", x.sheets(1, 1), 0);
        due("habits", x.count(8), 0);
        due("calls", x.calls(0, 0) + x.calls(1, 0), 20);
        x.come(1);
        due("without, eggs", x.give(0), 0);
        x.quarter();
        x.come(1);
        due("eggs, worths", x.give(3), 6);
        due("word", x.quarter() + x.count(7), 2);
        due("left", x.score(), 6);
        due("an apple's worth", anew().value(0, 0, 1, true), 5000);
        due("value", anew().value(0, 7, 1, false), 0);
        due("dark", ended(offIn(anew())).score(), 0);
    }

    void houseAnewWhatIsUntoldIsAsAtFirst() {
        LastsEvening x = in("house 4;bowl 9;apples 3 worth 2;worths 9 9 9;left 7;without 4;eggs 9 from 1;word 1;dark 3;rain 5;twice 5;"
            + "calls 0 to 3 1 2 3 4;habit a 1;habit b 2;");
        fed(x, "house 2;").house();
        due("bowl", x.count(2), 0);
        due("apples", x.count(3), 0);
        due("habits", x.count(8), 0);
        due("rain", x.rains(), 0);
        due("twice", x.sheets(1, 1), 0);
        due("calls", x.calls(0, 0) * 100 + x.calls(1, 0), 1010);
        for (int quarter = 0; quarter < 2; quarter++) {
            x.come(1);
            due("without, eggs", x.give(quarter), 0);
            x.quarter();
        }
        due("word, score", x.count(7) + x.score(), 0);
        fed(x, "house 2;without 4;eggs 9 from 1;").house();
        fed(x, "house 2;without 4;").house();
        x.quarter();
        x.come(1);
        due("no eggs", x.give(0), -4);
        fed(x, "house 2;bowl 4;apples 1 worth 5;").house();
        x.come(1);
        due("worths", x.give(3), 6);
        x.off();
        x.quarter();
        x.quarter();
        due("dark, left", x.score(), 6);
    }

    void houseAnewHabitsAreTheNewOnes() {
        LastsEvening x = in("house 1;bowl 3;calls 0 to 0 0 10 0 0;habit a 1+1;habit b 3;");
        fed(x, "house 1;bowl 3;calls 0 to 0 0 10 0 0;habit c 1;habit d here*3-1;").house();
        due("the first", x.mean(0), 3000);
        due("the second", x.mean(1), 5000);
        fed(x, "house 1;bowl 3;calls 0 to 0 0 10 0 0;habit c 3;habit d ").house();
        due("by a fault they stay", x.mean(0), 3000);
    }

    void houseAnewOfFewerHabits() {
        LastsEvening x = in("house 1;bowl 3;calls 0 to 0 0 10 0 0;habit a 0;habit b 3;habit c 3;");
        due("the second", x.habits(), 1);
        fed(x, "house 1;bowl 3;calls 0 to 0 0 10 0 0;habit a 0;").house();
        due("one alone", x.habits(), 0);
        due("no second", x.close(1), -1);
    }

    void houseAnewHabitsOfAThousandSignsAgainAndAgain() {
        String house = "house 1;bowl 3;calls 0 to 0 0 10 0 0;habit a 1" + "+1".repeat(450) + ";";
        LastsEvening x = new LastsEvening();
        for (int i = 0; i < 4; i++) {
            due("house " + i, fed(x, house).house(), 0);
            due("451 is give 4: no apples", x.mean(0), 0);
            due("left", x.left(0), 3000);
        }
        fed(x, house.replace("a 1", "a 1-450")).house();
        due("1", x.mean(0), 3000);
    }

    void houseAnewTheDarkAndTheWordAreGone() {
        LastsEvening x = in("house 3;bowl 9;word 1;dark 7;");
        x.off();
        x.quarter();
        fed(x, "house 3;bowl 9;word 1;dark 7;").house();
        x.quarter();
        due("the dark", x.score(), 0);
        x.come(1);
        x.give(1);
        fed(x, "house 3;bowl 9;word 1;dark 7;").house();
        x.quarter();
        due("the word", x.count(7), 0);
        due("none by it", x.come(0), true);
    }

    private static LastsEvening offIn(LastsEvening x) {
        x.off();
        return x;
    }

    void houseFaultAllStays() {
        LastsEvening x = on("house 4;bowl 9;apples 3 worth 2;word 1;rain 5;calls 0 to 3 1 2 3 4;habit a 1;", "come 1;give 1;");
        x.mark(1, false);
        x.come(2);
        x.give(1);
        x.quarter();
        String before = state(x);
        int[] values = {x.value(0, 9, 3, true), x.mean(0), x.read(0, 4, 5, 0), x.calls(3, 3), x.tonight()};
        String text = "house 2;bowl 7;apples 1 worth 1;rain 1;calls 0 to 1 0 0 0 10;habit b 2;worths 1 1";
        due("a fault at its end", fed(x, text).house(), 1 + 16 * text.length());
        due("state", state(x), before);
        int[] then = {x.value(0, 9, 3, true), x.mean(0), x.read(0, 4, 5, 0), x.calls(3, 3), x.tonight()};
        for (int i = 0; i < then.length; i++) {
            due("answer " + i, then[i], values[i]);
        }
        due("undo", x.undo(), true);
        due("mark", x.mark(1, true), true);
    }

    void eveningFaultAllStays() {
        LastsEvening x = on("house 2;bowl 9;", "come 1;give 1;");
        x.come(2);
        String before = state(x);
        due("a fault at its end", fed(x, "come 2;give 2;quarter").evening(), 1 + 16 * 21);
        due("state", state(x), before);
        due("a fault at its first word", fed(x, "x").evening(), 1);
        due("state", state(x), before);
    }

    void eveningReadNothingElseMoves() {
        LastsEvening x = in("house 2;bowl 9;rain 3;");
        x.mark(2, false);
        x.come(2);
        x.give(1);
        String before = state(x);
        due("read", fed(x, "come 3;off;").evening(), 0);
        due("lines", x.count(11), 2);
        fed(x, "").evening();
        due("state", state(x), before);
        due("undo", x.undo() && x.count(5) == 0, true);
        due("mark", x.mark(2, true) && x.count(4) == 0, true);
    }
}
