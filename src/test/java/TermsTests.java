/** Each boundary that the document names of QUARTER, GIVE .. MARKS, in a test named after the word and the boundary. */
public final class TermsTests extends Suite {
    // One caller in each of two quarters.
    private static final String TWO = "house 2;bowl 4;worths 5 3 1;left 1;without 10;calls 0 to 1 0 10 0 0;";
    // One caller in each of three quarters, word by two and more.
    private static final String WORD = "house 3;bowl 9;worths 5 3 1;without 10;word 2;calls 0 to 2 0 10 0 0;";
    private static final String THREE_THEN_NONE = "house 2;bowl 9;worths 5 3 1;left 1;without 7;word 3;dark 99;calls 0 to 0 0 0 0 10;habit a 1;";
    private static final String ONE_IN_TEN = "worths 1 0 0;calls 0 to ";

    public static void main(String[] args) {
        new TermsTests().runAll();
    }

    // QUARTER.

    void quarterCallersAreHereTillItGoesBy() {
        LastsEvening x = in(TWO);
        x.come(2);
        due("come", x.count(4), 2);
        x.give(1);
        due("given to", x.count(4), 2);
        x.quarter();
        due("the next one", x.count(4), 0);
    }

    void quarterOnceACome() {
        LastsEvening x = in(TWO);
        due("none", x.come(0), true);
        due("again", x.come(1), false);
        x.quarter();
        due("some", x.come(1), true);
        due("again", x.come(1), false);
    }

    void quarterWhoWasGivenNothingGoesOffWithout() {
        LastsEvening x = in(TWO);
        x.come(2);
        x.quarter();
        due("score", x.score(), -20);
        due("without", x.count(10), 2);
        due("the bowl stays", x.count(2), 4);
    }

    void quarterWhoWasGivenToByGive0GoesOffOnce() {
        LastsEvening x = in(TWO);
        x.come(2);
        x.give(0);
        x.quarter();
        due("score", x.score(), -20);
        due("without", x.count(10), 2);
    }

    void quarterNoneCameNobodyGoesOff() {
        LastsEvening x = in(TWO);
        x.come(0);
        x.quarter();
        x.quarter();
        due("without", x.count(10), 0);
        due("score: what is left", x.score(), -4);
    }

    void quarterGive0OfOneWhoWaitsIsByThisQuartersEggs() {
        LastsEvening x = in("house 3;without 5;eggs 7 from 1;");
        x.come(1);
        x.quarter();
        due("the one ahead of the eggs", x.score(), -5);
        x.come(1);
        x.quarter();
        due("the eggs' own", x.score(), -12);
    }

    void quarterBehindTheLastIsTheEnd() {
        LastsEvening x = in("house 24;");
        for (int quarter = 1; quarter <= 24; quarter++) {
            due("the next one", x.quarter(), quarter);
        }
        due("over", x.quarter(), -1);
        due("the end", x.count(1), 24);
    }

    // GIVE.

    void giveSoManyToEachInTurn() {
        int[] rest = {12, 9, 6, 3};
        for (int how = 0; how <= 3; how++) {
            LastsEvening x = in("house 3;bowl 12;");
            x.come(3);
            x.give(how);
            due("three by give " + how, x.count(2), rest[how]);
        }
    }

    void giveThreeToFourOfTheWord() {
        LastsEvening x = gone("house 3;bowl 13;worths 5 3 1;word 1;", 1, 1);
        x.come(4);
        due("twelve", x.give(3), 36);
        due("the bowl", x.count(2), 0);
    }

    void giveAsFarAsTheBowlGoesTheLastGetsFewer() {
        LastsEvening x = in("house 2;bowl 3;worths 5 3 1;without 10;");
        x.come(2);
        due("two and one", x.give(2), 8 + 5);
        due("the bowl", x.count(2), 0);
        due("without", x.count(10), 0);
    }

    void giveAsFarAsTheBowlGoesTheLastGetsNothing() {
        LastsEvening x = in("house 2;bowl 2;worths 5 3 1;without 10;");
        x.come(2);
        due("two and none", x.give(2), 8 - 10);
        due("without", x.count(10), 1);
    }

    void giveTheBowlIsJustEnough() {
        LastsEvening x = in("house 2;bowl 6;worths 5 3 1;without 10;");
        x.come(2);
        due("three each", x.give(3), 18);
        due("the bowl", x.count(2) + x.count(10), 0);
    }

    void giveOfAnEmptyBowl() {
        for (int how = 0; how <= 3; how++) {
            LastsEvening x = in("house 2;without 10;");
            x.come(3);
            due("give " + how, x.give(how), -30);
            due("without " + how, x.count(10), 3);
        }
    }

    void give0NobodyGetsAnything() {
        LastsEvening x = in("house 2;bowl 9;apples 3 worth 5;without 10;");
        x.come(2);
        due("worth", x.give(0), -20);
        due("toffees", x.count(2), 9);
        due("apples", x.count(3), 3);
        due("given to all the same", x.count(5), 1);
    }

    void give4AnAppleEachAsFarAsTheyGo() {
        int[] worths = {-20, 5 - 10, 10, 10};
        for (int apples = 0; apples <= 3; apples++) {
            LastsEvening x = in("house 2;bowl 9;apples " + apples + " worth 5;without 10;");
            x.come(2);
            due("apples " + apples, x.give(4), worths[apples]);
            due("apples left " + apples, x.count(3), Math.max(0, apples - 2));
            due("the bowl stays", x.count(2), 9);
            due("without", x.count(10), Math.max(0, 2 - apples));
        }
    }

    void giveToffeesTheApplesStay() {
        LastsEvening x = in("house 2;bowl 9;apples 3 worth 5;");
        x.come(3);
        x.give(3);
        due("apples", x.count(3), 3);
    }

    // WORTH.

    void worthOfTheFirstSecondThirdToffee() {
        int[] worths = {0, 50, 70, 71};
        for (int how = 1; how <= 3; how++) {
            LastsEvening x = in("house 1;bowl 3;worths 50 20 1;");
            x.come(1);
            due("give " + how, x.give(how), worths[how]);
        }
    }

    void worthOfWhatTheLastGets() {
        int[] worths = {-20, 50 - 10, 70 - 10, 71 - 10, 71 + 50, 71 + 70, 142, 142};
        for (int bowl = 0; bowl <= 7; bowl++) {
            LastsEvening x = in("house 1;bowl " + bowl + ";worths 50 20 1;without 10;");
            x.come(2);
            due("bowl " + bowl, x.give(3), worths[bowl]);
        }
    }

    void worthOf0IsNotWithout() {
        LastsEvening x = in("house 1;bowl 1;worths 0 0 0;without 10;");
        x.come(1);
        due("a toffee of no worth", x.give(1), 0);
        due("got something", x.count(10), 0);
    }

    void worthLessEggsFromTheirQuarterOn() {
        int[] worths = {-5, -5, -40, -40};
        LastsEvening x = in("house 4;without 5;eggs 40 from 2;");
        for (int quarter = 0; quarter < 4; quarter++) {
            x.come(1);
            due("quarter " + quarter, x.give(3), worths[quarter]);
            x.quarter();
        }
    }

    void worthLessEggsForApplesThatLack() {
        LastsEvening x = in("house 1;apples 1 worth 3;without 5;eggs 40 from 0;");
        x.come(3);
        due("one of three", x.give(4), 3 - 80);
    }

    // WORD.

    void wordByGivesFromWordTo3() {
        for (int word = 1; word <= 3; word++) {
            for (int how = 0; how <= 4; how++) {
                LastsEvening x = gone("house 2;bowl 9;apples 9 worth 1;word " + word + ";", 1, how);
                due("word " + word + " give " + how, x.count(7), how >= word && how <= 3 ? 1 : 0);
            }
        }
    }

    void wordIsOutInTheNextQuarterAlone() {
        LastsEvening x = in(WORD);
        x.come(1);
        x.give(2);
        due("not in its own", x.count(7), 0);
        x.quarter();
        due("in the next one", x.count(7), 1);
        x.quarter();
        due("not behind it", x.count(7), 0);
    }

    void wordIsOutInTheDarkAllTheSame() {
        LastsEvening x = in(WORD);
        x.come(1);
        x.give(2);
        x.off();
        x.quarter();
        due("in the next one", x.count(7), 1);
        due("nobody comes", x.come(1), false);
        x.quarter();
        due("not behind it", x.count(7), 0);
    }

    void wordOfTheWordsQuarterAgain() {
        LastsEvening x = gone(WORD, 1, 2);
        x.come(1);
        x.give(2);
        x.quarter();
        due("again", x.count(7), 1);
    }

    void wordByAnEmptyBowlAllTheSame() {
        due("give was 2", gone("house 2;word 2;", 1, 2).count(7), 1);
    }

    void wordNotByWhoWasGivenNothing() {
        LastsEvening x = in("house 2;bowl 9;word 1;");
        x.come(1);
        x.quarter();
        due("give 0", x.count(7), 0);
        LastsEvening y = in("house 2;bowl 9;word 1;");
        y.come(0);
        y.quarter();
        due("nobody came", y.count(7), 0);
    }

    void wordBringsOneMore() {
        for (int many = 0; many <= 5; many++) {
            due("come " + many, gone(WORD, 1, 2).come(many), many >= 1 && many <= 4);
            due("without the word, come " + many, gone(WORD, 1, 1).come(many), many <= 3);
        }
    }

    void wordInAQuarterWithoutCallsBringsOne() {
        due("value", in("house 2;bowl 9;worths 5 3 1;word 1;dark 9;").value(1, 9, 0, true), 9000);
    }

    // OFF.

    void offNobodyComes() {
        LastsEvening x = dark("house 2;");
        due("at once", x.come(0), false);
        x.quarter();
        due("for good", x.come(1), false);
        due("the light", x.count(6), 0);
    }

    void offBeforeAComeThisQuarterCosts() {
        LastsEvening x = dark("house 3;dark 7;");
        due("not yet", x.score(), 0);
        int[] scores = {-7, -14, -21};
        for (int score : scores) {
            x.quarter();
            due("as it goes by", x.score(), score);
        }
    }

    void offBehindAComeOfNoneTheNextOneCosts() {
        LastsEvening x = in("house 3;dark 7;");
        x.come(0);
        x.off();
        int[] scores = {0, -7, -14};
        for (int score : scores) {
            x.quarter();
            due("as it goes by", x.score(), score);
        }
    }

    void offBehindAComeTheNextOneCosts() {
        LastsEvening x = in("house 3;dark 7;without 1;");
        x.come(1);
        x.off();
        int[] scores = {-1, -8, -15};
        for (int score : scores) {
            x.quarter();
            due("as it goes by", x.score(), score);
        }
    }

    void offInTheLastQuarter() {
        LastsEvening x = in("house 2;dark 7;");
        x.quarter();
        x.off();
        x.quarter();
        due("before a come", x.score(), -7);
        LastsEvening y = in("house 2;dark 7;");
        y.quarter();
        y.come(0);
        y.off();
        y.quarter();
        due("behind one", y.score(), 0);
    }

    void offWhoIsHereIsGivenTo() {
        LastsEvening x = in("house 2;bowl 2;worths 5 3 1;dark 7;");
        x.come(1);
        x.off();
        due("here", x.count(4), 1);
        due("give", x.give(2), 8);
    }

    void offWhatIsLeftCostsAtTheEnd() {
        due("left", ended(dark("house 2;bowl 5;left 3;dark 7;")).score(), -14 - 15);
    }

    // SCORE, the end.

    void scoreOfTheEndForEachToffeeLeft() {
        for (int bowl = 0; bowl <= 2; bowl++) {
            due("bowl " + bowl, over("house 2;bowl " + bowl + ";left 3;").score(), -3 * bowl);
        }
    }

    void scoreOfTheEndNotBeforeIt() {
        LastsEvening x = in("house 2;bowl 2;left 3;");
        x.quarter();
        due("the last quarter", x.score(), 0);
        x.quarter();
        due("the end", x.score(), -6);
    }

    void scoreOfTheEndApplesCostNothing() {
        due("apples", over("house 1;apples 12 worth 9;left 99;").score(), 0);
    }

    void scoreTheGreatest() {
        LastsEvening x = in("house 24;bowl 120;worths 99 99 99;");
        for (int quarter = 0; quarter < 24; quarter++) {
            x.come(3);
            x.give(3);
            x.quarter();
        }
        due("120 toffees", x.score(), 99 * 120);
        due("callers", x.count(9), 72);
        due("without", x.count(10), 72 - 40);
    }

    // UNDO.

    void undoTheLast16() {
        LastsEvening x = in("house 24;");
        for (int i = 0; i < 17; i++) {
            x.quarter();
        }
        due("what can be undone", x.count(12), 16);
        for (int quarter = 16; quarter >= 1; quarter--) {
            due("undo", x.undo(), true);
            due("one by one", x.count(1), quarter);
            due("what can be undone yet", x.count(12), quarter - 1);
        }
        due("the 17th", x.undo(), false);
        due("stays", x.count(1), 1);
    }

    void undoOf16All() {
        LastsEvening x = in("house 24;");
        for (int i = 0; i < 16; i++) {
            x.quarter();
        }
        for (int i = 0; i < 16; i++) {
            due("undo", x.undo(), true);
        }
        due("none", x.undo(), false);
        due("the beginning", x.count(1), 0);
    }

    void undoGoesOnBehindAnUndo() {
        LastsEvening x = in("house 24;");
        for (int i = 0; i < 20; i++) {
            x.quarter();
        }
        for (int i = 0; i < 5; i++) {
            x.undo();
        }
        x.come(2);
        x.give(0);
        due("11 and 2", x.count(12), 13);
        due("give", x.undo() && x.count(5) == 0 && x.count(4) == 2, true);
        due("come", x.undo() && x.count(4) == 0 && x.count(1) == 15, true);
        due("quarter", x.undo() && x.count(1) == 14, true);
    }

    void undoOfACome() {
        LastsEvening x = in("house 2;rain 5;calls 0 to 1 4 3 2 1;");
        String before = state(x);
        x.come(2);
        due("undo", x.undo(), true);
        due("state", state(x), before);
        due("come again", x.come(3), true);
    }

    void undoOfAGive() {
        LastsEvening x = in("house 2;bowl 9;apples 2 worth 5;word 1;without 3;");
        x.come(3);
        String before = state(x);
        x.give(4);
        x.undo();
        due("apples", state(x), before);
        x.give(3);
        x.undo();
        due("toffees", state(x), before);
        x.quarter();
        due("no word of what was undone", x.count(7), 0);
    }

    void undoOfAQuarter() {
        LastsEvening x = in("house 1;bowl 9;word 1;left 2;");
        x.come(2);
        x.give(1);
        String before = state(x);
        x.quarter();
        x.undo();
        due("state", state(x), before);
        due("the end again", x.quarter(), 1);
        due("word, left", x.count(7) * 100 + x.score(), 100 + 6 - 14);
    }

    void undoOfAQuarterThatGave0() {
        LastsEvening x = in("house 2;bowl 9;without 4;");
        x.come(2);
        x.quarter();
        due("one undo", x.count(12), 2);
        x.undo();
        due("here again", x.count(4) * 100 + x.count(5) * 10 + x.count(10) - x.score(), 200);
        due("given to", x.give(1), 6);
    }

    void undoOfOff() {
        LastsEvening x = in("house 2;dark 4;");
        x.off();
        x.undo();
        due("light", x.count(6), 1);
        due("come", x.come(1), true);
        x.quarter();
        due("it costs nothing", x.score(), 0);
    }

    void undoNotOfWhatIsRefused() {
        LastsEvening x = in("house 1;");
        x.come(4);
        dueThrow("give to nobody", () -> x.give(0));
        x.undo();
        x.mark(0, true);
        due("none", x.count(12), 0);
    }

    // JUDGED.

    void judgedNoEvening() {
        LastsEvening x = in(TWO);
        due("can't be", x.judged(0), -1);
        due("not best", x.judged(1), -1);
        due("score", x.judged(2), 0);
    }

    void judgedLinesThatCantBe() {
        String[] evenings = {"come 0;come 0;", "come 1;come 1;", "come 1;give 0;give 0;", "come 1;give 4;give 4;", "give 1;", "come 0;give 1;",
            "quarter;quarter;quarter;", "quarter;quarter;off;", "quarter;quarter;come 0;", "quarter;quarter;give 0;", "off;come 0;", "off;come 1;",
            "off;off;", "come 4;", "come 1;quarter;give 1;", "come 1;give 1;come 1;", "off;quarter;come 1;", "off;quarter;off;"};
        int[] lines = {1, 1, 2, 2, 0, 1, 2, 2, 2, 2, 1, 1, 1, 0, 2, 2, 2, 2};
        for (int i = 0; i < evenings.length; i++) {
            due(evenings[i], on(TWO, evenings[i]).judged(0), lines[i]);
        }
    }

    void judgedLinesThatCanBe() {
        String[] evenings = {"", "come 0;", "come 3;", "off;quarter;quarter;", "come 1;off;give 1;", "come 0;off;", "quarter;quarter;", "quarter;off;",
            "quarter;come 3;give 4;quarter;"};
        for (String evening : evenings) {
            due(evening, on(TWO, evening).judged(0), -1);
        }
    }

    void judgedCome0To3() {
        for (int many = 0; many <= 4; many++) {
            due("come " + many, on(WORD, "come " + many + ";").judged(0), many <= 3 ? -1 : 0);
        }
    }

    void judgedCome1To4WithTheWord() {
        for (int many = 0; many <= 4; many++) {
            due("come " + many, on(WORD, "come 1;give 2;quarter;come " + many + ";").judged(0), many >= 1 ? -1 : 3);
        }
    }

    void judgedWhateverCallsTell() {
        due("none tell of them", on("house 1;bowl 9;", "come 3;give 3;").judged(0), -1);
        due("its score", on("house 1;bowl 9;", "come 3;give 3;").judged(2), 18);
    }

    void judgedTheFirstLineThatCantBe() {
        due("two of them", on(TWO, "come 1;give 2;come 1;give 2;").judged(0), 2);
        due("the first line is 0", on(TWO, "give 1;give 1;").judged(0), 0);
        due("the last line", on("house 24;", "come 1;give 0;quarter;".repeat(19) + "come 0;off;give 1;").judged(0), 59);
    }

    void judgedALineThatCantBeIsLeftOut() {
        due("a second come", on(TWO, "come 1;come 3;give 2;").judged(2), 8);
        due("a second give", on(TWO, "come 1;give 2;give 3;").judged(2), 8);
        due("come 4", on(TWO, "come 4;come 2;give 2;").judged(2), 16);
        due("a come in the dark", on(TWO, "off;come 1;give 2;").judged(2), 0);
        due("behind the end", on(TWO, "quarter;quarter;come 1;give 3;").judged(2), -4);
    }

    void judgedTheFirstGiveThatIsNotBest() {
        due("none", on(TWO, "come 1;give 2;quarter;come 1;give 2;").judged(1), -1);
        due("the first", on(TWO, "come 1;give 1;quarter;come 1;give 2;").judged(1), 1);
        due("the second", on(TWO, "come 1;give 2;quarter;come 1;give 1;").judged(1), 4);
        due("two of them", on(TWO, "come 1;give 3;quarter;come 1;give 0;").judged(1), 1);
        due("of equal ones the first is best", on("house 1;", "come 1;give 1;").judged(1), 1);
        due("that is give 0", on("house 1;", "come 1;give 0;").judged(1), -1);
    }

    void judgedAGiveThatCantBeIsNotJudged() {
        due("to nobody", on(TWO, "give 0;come 1;give 2;").judged(1), -1);
        due("twice", on(TWO, "come 1;give 2;give 0;").judged(1), -1);
        due("behind the end", on(TWO, "quarter;quarter;give 0;").judged(1), -1);
    }

    void judgedGiveOfQuarterDoesNotCount() {
        due("quarter gives 0", on(TWO, "come 1;quarter;").judged(1), -1);
        due("its score", on(TWO, "come 1;quarter;").judged(2), -10);
    }

    void judgedByTheApplesAndToffeesThatAreLeftInIt() {
        // Three come, then two: the three apples are for the three, the two toffees for the two.
        String house = "house 2;bowl 2;apples 3 worth 9;worths 3 0 0;without 10;dark 99;calls 0 to 0 0 0 0 10;calls 1 to 1 0 0 10 0;";
        due("as told", on(house, "come 3;give 4;quarter;come 2;give 1;quarter;").judged(1), -1);
        due("apples again", on(house, "come 3;give 4;quarter;come 2;give 4;quarter;").judged(1), 4);
        due("toffees first", on(house, "come 3;give 1;quarter;come 2;give 4;quarter;").judged(1), 1);
    }

    void judgedBestForThoseOfTheWordToo() {
        String house = "house 2;bowl 9;worths 5 3 1;without 10;word 1;";
        String[] lasts = {"come 3;give 2;", "come 3;give 3;", "come 4;give 1;", "come 4;give 2;"};
        int[] lines = {-1, 4, -1, 4};
        for (int i = 0; i < 4; i++) {
            due(lasts[i], on(house, "come 1;give 3;quarter;" + lasts[i]).judged(1), lines[i]);
        }
    }

    void judgedInTheDarkBestAsIfTheLightWereOn() {
        due("best", on(TWO, "come 1;off;give 2;").judged(1), -1);
        due("not best", on(TWO, "come 1;off;give 3;").judged(1), 2);
    }

    void judgedScoreWithoutTheEndIfItIsNotOver() {
        due("not over", on(TWO, "come 1;give 2;quarter;").judged(2), 8);
        due("over", on(TWO, "come 1;give 2;quarter;quarter;").judged(2), 8 - 2);
    }

    void judgedFromTheBeginning() {
        LastsEvening x = on(TWO, "come 1;give 2;");
        x.come(3);
        x.give(3);
        x.quarter();
        x.off();
        String before = state(x);
        due("can be", x.judged(0), -1);
        due("score", x.judged(2), 8);
        due("the evening by hand stays", state(x), before);
    }

    void judgedAgainIsAsBefore() {
        LastsEvening x = on("house 3;bowl 9;word 1;dark 5;", "come 1;give 1;off;quarter;");
        for (int i = 0; i < 3; i++) {
            due("the dark of the last time is none of this", x.judged(2), 3);
        }
        LastsEvening y = on("house 3;bowl 9;word 1;", "quarter;come 0;quarter;come 1;give 1;");
        for (int i = 0; i < 3; i++) {
            due("the word of the last time is none of this", y.judged(0), -1);
        }
    }

    // NOW.

    void nowThoseHereAreAside() {
        LastsEvening x = in(WORD);
        long value = x.tonight();
        x.come(3);
        due("tonight", x.tonight(), value);
        due("may", x.may(1), in(WORD).may(1));
        due("best", x.best(2), in(WORD).best(2));
        due("stay", x.stay(), 1);
        due("surely", x.surely(2), in(WORD).surely(2));
    }

    void nowToffeesAreWhatIsInTheBowlNow() {
        LastsEvening x = in(TWO);
        x.come(1);
        x.give(3);
        due("one toffee for two quarters", x.tonight(), 5000);
        due("surely", x.surely(1), 0);
        due("fence", x.fence(0), 5000 - 30000 + 5000 + 20000);
    }

    void nowApplesAreAsTheyAre() {
        LastsEvening x = in("house 2;apples 1 worth 7;without 5;dark 99;calls 0 to 1 0 10 0 0;");
        due("one", x.tonight(), 2000);
        x.come(1);
        x.give(4);
        due("none", x.tonight(), -10000);
    }

    void nowTheWordAsItIs() {
        String house = "house 2;bowl 9;worths 5 0 0;word 2;calls 0 to 1 0 10 0 0;";
        due("out", gone(house, 1, 2).tonight(), 10000);
        due("not out", gone(house, 1, 1).tonight(), 5000);
    }

    void nowFromTheBeginningOfThisQuarterOn() {
        LastsEvening x = in(TWO);
        x.quarter();
        due("one quarter", x.tonight(), 9000 - 1000);
    }

    // VALUE.

    void valueAtTheEndIsWhatIsLeft() {
        LastsEvening x = in("house 2;bowl 9;apples 2 worth 9;left 3;dark 5;without 4;");
        for (int toffees = 0; toffees <= 9; toffees++) {
            due("toffees " + toffees, x.value(2, toffees, 2, true), -3000 * toffees);
        }
    }

    void valueOfTheLastQuarter() {
        LastsEvening x = in("house 1;bowl 9;worths 5 3 1;left 3;without 4;dark 99;calls 0 to 0 0 0 10 0;");
        int[] values = {-8, 1, 10, 13, 16, 17, 18, 15, 12, 9};
        for (int toffees = 0; toffees <= 9; toffees++) {
            due("toffees " + toffees, x.value(0, toffees, 0, false), 1000 * values[toffees]);
        }
    }

    void valueOffAtOnceCostsEachQuarterYet() {
        LastsEvening x = in("house 4;bowl 2;left 3;dark 5;without 99;calls 0 to 3 0 0 0 10;");
        due("four", x.value(0, 0, 0, false), -20000);
        due("one", x.value(3, 0, 0, false), -5000);
        due("what is left", x.value(3, 2, 0, false), -11000);
    }

    void valueOffAtOnceOrTheLightOn() {
        for (int dark = 8; dark <= 12; dark++) {
            due("dark " + dark, in("house 1;without 10;dark " + dark + ";calls 0 to 0 0 10 0 0;").value(0, 0, 0, false), -1000 * Math.min(10, dark));
        }
    }

    void valueOffLaterToo() {
        due("one toffee, then off", in("house 3;bowl 1;worths 5 0 0;without 50;dark 2;calls 0 to 2 0 10 0 0;").value(0, 1, 0, false), 1000);
    }

    void valueIsCutAtEachQuarter() {
        LastsEvening x = in("house 5;bowl 1;" + ONE_IN_TEN + "4 9 1 0 0;");
        int[] values = {408, 343, 271, 190, 100, 0};
        for (int quarter = 0; quarter <= 5; quarter++) {
            due("quarter " + quarter, x.value(quarter, 1, 0, false), values[quarter]);
        }
    }

    void valueIsCutTowards0() {
        LastsEvening x = in("house 4;bowl 1;left 1;dark 99;" + ONE_IN_TEN + "3 9 1 0 0;");
        int[] values = {-312, -458, -620, -800, -1000};
        for (int quarter = 0; quarter <= 4; quarter++) {
            due("quarter " + quarter, x.value(quarter, 1, 0, false), values[quarter]);
        }
    }

    void valueIsCutOnceForAllChances() {
        // 522.9 and 146.7 are 669.6.
        due("seven quarters", in("house 7;bowl 2;" + ONE_IN_TEN + "6 9 1 0 0;").value(0, 2, 0, false), 669);
    }

    void valueByEachChance() {
        LastsEvening x = in("house 1;bowl 9;worths 5 0 0;dark 99;calls 0 to 0 1 2 3 4;");
        due("without the word", x.value(0, 9, 0, false), (5 * 2 + 10 * 3 + 15 * 4) * 100);
        due("with the word", x.value(0, 9, 0, true), (5 + 10 * 2 + 15 * 3 + 20 * 4) * 100);
    }

    void valueByAChanceOf1() {
        String[] rows = {"1 9 0 0", "9 1 0 0", "9 0 1 0", "9 0 0 1"};
        int[] values = {4500, 500, 1000, 1500};
        for (int i = 0; i < 4; i++) {
            LastsEvening x = in("house 1;bowl 9;worths 5 0 0;dark 99;calls 0 to 0 " + rows[i] + ";");
            due(rows[i], x.value(0, 9, 0, false), values[i]);
            due(rows[i] + ", one more by the word", x.value(0, 9, 0, true), values[i] + 5000);
        }
    }

    void valueByAllGives() {
        due("give 0", in("house 2;bowl 1;worths 1 0 0;without 1;eggs 50 from 1;dark 99;calls 0 to 1 0 10 0 0;").value(0, 1, 0, false), 0);
        due("give 1", in("house 2;bowl 2;worths 5 3 1;calls 0 to 1 0 10 0 0;").value(0, 2, 0, false), 10000);
        due("give 2", in("house 2;bowl 4;worths 5 3 1;calls 0 to 1 0 10 0 0;").value(0, 4, 0, false), 16000);
        due("give 3", in("house 1;bowl 3;worths 5 3 1;dark 9;calls 0 to 0 0 10 0 0;").value(0, 3, 0, false), 9000);
        due("give 4", in("house 1;bowl 3;apples 1 worth 10;worths 5 3 1;calls 0 to 0 0 10 0 0;").value(0, 3, 1, false), 10000);
        due("keep for later", in("house 2;bowl 1;apples 1 worth 1;worths 5 3 1;without 9;dark 99;calls 0 to 1 0 10 0 0;").value(0, 1, 1, false), 6000);
    }

    void valueApplesAsManyAsThereAre() {
        LastsEvening x = in("house 1;apples 3 worth 7;without 2;dark 99;calls 0 to 0 0 0 0 10;");
        int[] values = {-6, 3, 12, 21};
        for (int apples = 0; apples <= 3; apples++) {
            due("apples " + apples, x.value(0, 0, apples, false), 1000 * values[apples]);
        }
        due("four of the word", x.value(0, 0, 3, true), 19000);
    }

    void valueInAQuarterWithoutCallsNoneCome() {
        LastsEvening x = in("house 3;bowl 9;worths 5 3 1;without 7;calls 0 to 0 0 10 0 0;");
        due("none", x.value(1, 9, 0, false), 0);
        due("none, an empty bowl", x.value(1, 0, 0, false), 0);
        due("one by the word", x.value(1, 9, 0, true), 9000);
    }

    void valueInTheLargestHouse() {
        LastsEvening x = in("house 24;bowl 120;apples 12 worth 7;worths 5 0 0;dark 99;word 3;calls 0 to 23 0 10 0 0;");
        due("the last quarter, two come", x.value(23, 120, 12, true), 14000);
        due("the last but one, a toffee with word, then two apples", x.value(22, 120, 12, false), 19000);
        due("no toffees", x.value(0, 0, 12, false), 84000);
        due("without word", in("house 24;bowl 120;apples 12 worth 7;worths 5 0 0;dark 99;calls 0 to 23 0 10 0 0;").value(0, 120, 12, false),
            12 * 7000 + 12 * 5000);
    }

    void valueInAHouseOfMoreApplesThanQuarters() {
        LastsEvening x = in("house 1;bowl 120;apples 12 worth 7;worths 5 4 3;word 3;calls 0 to 0 0 0 0 10;");
        due("three toffees to four", x.value(0, 120, 12, true), 48000);
        due("nine toffees to four, or an apple", x.value(0, 9, 12, true), 36000);
        due("no toffees", x.value(0, 0, 12, true), 28000);
        due("of no apples", x.value(0, 0, 0, true), 0);
    }

    void valueOfAQuarterNotByTheOneAhead() {
        // Three come for sure in the first quarter, none in the second.
        LastsEvening x = in(THREE_THEN_NONE);
        due("none", x.value(1, 9, 0, false), -9000);
        due("one by the word", x.value(1, 9, 0, true), 9000 - 6000);
        x.quarter();
        due("mean", x.mean(0), -9000);
        due("left", x.left(0), 9000);
        due("surely", x.surely(3), 1000000);
        due("fence: 18 are left, 9 and 9", x.fence(9), 0);
        LastsEvening y = gone(THREE_THEN_NONE, 1, 3);
        due("one by the word, of six", y.mean(0), 5000 - 5000);
        due("that is left", y.left(0), 5000);
    }

    void valueTheWordIsOutInTheNextOneAlone() {
        LastsEvening x = in("house 4;bowl 20;worths 5 0 0;word 3;dark 99;calls 0 to 0 0 10 0 0;");
        due("each brings one more", x.value(0, 20, 0, false), 20000);
        due("as far as the bowl goes", x.value(0, 7, 0, false), 15000);
    }

    void valueEggs() {
        LastsEvening x = in("house 3;without 5;eggs 9 from 1;dark 99;calls 0 to 2 0 10 0 0;");
        due("ahead of them", x.value(0, 0, 0, false), -23000);
        due("from their quarter on", x.value(1, 0, 0, false), -18000);
    }

    // BEST, MAY, STAY.

    void bestOfEqualOnesTheFirst() {
        due("0 to 4", in("house 1;").best(1), 0);
        due("1 to 3", in("house 1;bowl 3;worths 5 0 0;").best(1), 1);
        due("2 and 3", in("house 1;bowl 3;worths 5 5 0;").best(1), 2);
        due("1 and 4", in("house 1;bowl 1;apples 1 worth 5;worths 5 0 0;").best(1), 1);
        due("3 and 4", in("house 1;bowl 3;apples 1 worth 6;").best(1), 3);
        due("0 and 4", in("house 1;apples 1 worth 0;").best(1), 0);
    }

    void bestOneMoreMakesIt4() {
        due("an apple worth more", in("house 1;bowl 3;apples 1 worth 7;").best(1), 4);
        due("an apple that keeps one from going without", in("house 1;apples 1 worth 0;without 1;").best(1), 4);
    }

    /** Word goes round by a give of 1 though the bowl is empty: the one whom it brings gets the apple. */
    void bestOfEqualOnesTheWordByAnEmptyBowl() {
        LastsEvening x = in("house 2;apples 1 worth 9;word 1;dark 99;");
        due("the next quarter with the word", x.value(1, 0, 1, true), 9000);
        due("the next quarter without it", x.value(1, 0, 1, false), 0);
        due("1 is as good as 4", x.best(1), 1);
        due("may", x.may(1), 9000);
    }

    void bestWithTheNextQuarterInMind() {
        due("one to keep", in(TWO).best(2), 1);
        String house = ";worths 5 3 1;without 99;dark 99;word 2;calls 1 to 1 0 0 0 10;";
        due("four come then, by a word, of four toffees", in("house 2;bowl 6" + house).best(1), 2);
        due("of three toffees none shall hear it", in("house 2;bowl 5" + house).best(1), 1);
    }

    void mayOfNobody() {
        due("the next quarter", in(TWO).may(0), 8000);
        due("the end", in("house 1;bowl 3;left 2;calls 0 to 0 0 10 0 0;").may(0), -6000);
    }

    void mayIsNotLessByOff() {
        due("the light stays on in this one", in("house 1;without 10;dark 1;calls 0 to 0 0 10 0 0;").may(3), -30000);
        due("off from the next one on", in("house 2;without 10;dark 1;calls 0 to 1 0 10 0 0;").may(1), -11000);
    }

    void mayIsWhatBestComesTo() {
        // Four toffees, one caller in the next quarter.
        int[] mays = {8, 16, 18, 20, 20};
        for (int here = 0; here <= 4; here++) {
            due("may " + here, in(TWO).may(here), 1000 * mays[here]);
        }
    }

    void stayNoLessThanOff() {
        int[] stays = {0, 1, 1};
        for (int dark = 9; dark <= 11; dark++) {
            due("dark " + dark, in("house 1;without 10;dark " + dark + ";calls 0 to 0 0 10 0 0;").stay(), stays[dark - 9]);
        }
    }

    void stayWithTheQuartersYetInMind() {
        due("two to come, 10 and 9 against 18", in("house 2;without 10;dark 9;calls 0 to 1 0 10 0 0;").stay(), 0);
        due("two to come, 10 and 10 against 20", in("house 2;without 10;dark 10;calls 0 to 1 0 10 0 0;").stay(), 1);
        due("twelve of 1 and 12 of 3", in("house 24;without 1;eggs 3 from 12;dark 1;calls 0 to 23 0 10 0 0;").stay(), 1);
    }

    void stayTheLightOnIsCut() {
        // With the light on it is 21,000.6 thousandths less, cut 21,000, as OFF at once is.
        due("equal when cut", in("house 5;bowl 1;left 1;without 8;dark 4;calls 0 to 0 1 0 8 1;calls 1 to 4 2 5 1 2;").stay(), 1);
    }

    void stayTheWordAsItIs() {
        String house = "house 2;bowl 3;worths 5 3 1;without 50;dark 2;word 3;";
        due("the word brings one", gone(house, 1, 3).stay(), 0);
        due("none come", gone(house, 1, 2).stay(), 1);
    }

    // MEAN, LEFT, CLOSE, HABITS.

    void meanGives0BelowItAnd4Above() {
        String house = "house 1;bowl 9;apples 2 worth 50;worths 9 5 2;without 7;calls 0 to 0 0 10 0 0;habit a ";
        String[] es = {"0-1", "0", "1", "3", "4", "5", "9999", "0-9999", "8192*8192*32", "8192*8192*32-1"};
        int[] means = {-7, -7, 9, 16, 50, 50, 50, -7, -7, 50};
        for (int i = 0; i < es.length; i++) {
            due(es[i], in(house + es[i] + ";").mean(0), 1000 * means[i]);
        }
    }

    void meanOfApplesTheReserveGoesDown() {
        due("two apples for three", in("house 3;apples 2 worth 5;without 1;habit a 4;calls 0 to 2 0 10 0 0;").mean(0), 9000);
        due("as long as there is reserve", in("house 3;bowl 9;apples 2 worth 5;worths 1 0 0;habit a (0<reserve)*3+1;calls 0 to 2 0 10 0 0;").mean(0), 11000);
    }

    void meanTheLightOnToTheEnd() {
        due("though off were better", in("house 3;without 50;dark 1;calls 0 to 2 0 10 0 0;habit a 1;").mean(0), -150000);
    }

    void meanIsCutAtEach() {
        due("408.7", in("house 5;bowl 1;habit a 1;" + ONE_IN_TEN + "4 9 1 0 0;").mean(0), 408);
        due("-312.2", in("house 4;bowl 1;left 1;habit a 1;" + ONE_IN_TEN + "3 9 1 0 0;").mean(0), -312);
        due("669.6, of 522.9 and 146.7", in("house 7;bowl 2;habit a 1;" + ONE_IN_TEN + "6 9 1 0 0;").mean(0), 669);
    }

    void meanOverIsWhatTheEndCosts() {
        due("toffees", over("house 2;bowl 5;left 3;habit a 1;").mean(0), -15000);
        due("none", over("house 2;left 3;habit a 1;").mean(0), 0);
    }

    void meanTheWordAsItIs() {
        String house = "house 2;bowl 9;worths 5 3 1;word 2;habit a 1;calls 0 to 1 0 10 0 0;";
        due("out", gone(house, 1, 2).mean(0), 10000);
        due("not out", gone(house, 1, 1).mean(0), 5000);
    }

    void meanTheHabitsOwnWord() {
        due("one more each time", in("house 3;bowl 20;worths 5 3 1;word 2;habit a 2;calls 0 to 2 0 10 0 0;").mean(0), 40000);
        due("apples tell nobody", in("house 3;bowl 20;apples 9 worth 5;word 2;habit a 4;calls 0 to 2 0 10 0 0;").mean(0), 15000);
    }

    void leftAtTheEndInThousandths() {
        due("over", over("house 2;bowl 5;left 9;habit a 1;").left(0), 5000);
        due("one of ten", in("house 1;bowl 5;habit a 1;calls 0 to 0 9 1 0 0;").left(0), 4900);
        due("none less than none", in("house 1;bowl 2;habit a 3;calls 0 to 0 0 0 0 10;").left(0), 0);
        due("0 below it", in("house 2;bowl 2;habit a 0-1;calls 0 to 1 0 10 0 0;").left(0), 2000);
        due("apples aren't toffees", in("house 1;bowl 2;apples 3 worth 1;habit a 4;calls 0 to 0 0 0 0 10;").left(0), 2000);
    }

    void leftIsCutAtEach() {
        // 0.9 to the 8th is 0.43046721; cut at each of eight: 900, 810, 729, 656, 590, 531, 477, 429.
        due("eight quarters", in("house 8;bowl 1;habit a 1;calls 0 to 7 9 1 0 0;").left(0), 429);
        due("1,603.8, of 1,530.9 and 72.9", in("house 4;bowl 2;habit a 1;calls 0 to 3 9 1 0 0;").left(0), 1603);
    }

    void closeAtOnceTillNever() {
        String house = "house 3;bowl 3;worths 5 0 0;without 9;dark 1;calls 0 to 2 0 10 0 0;habit a 1;habit b 0;habit c 3;habit d 2;";
        int[] quarters = {3, 0, 1, 2};
        for (int habit = 0; habit < 4; habit++) {
            due("habit " + habit, in(house).close(habit), quarters[habit]);
        }
    }

    void closeOfEqualOnesTheFirst() {
        String house = "house 3;without 9;dark 9;calls 0 to 2 0 10 0 0;habit a 0;";
        due("all equal", in(house).close(0), 0);
        LastsEvening x = in(house);
        x.quarter();
        due("from now on", x.close(0), 1);
        due("later ones equal", in("house 3;bowl 1;worths 5 0 0;without 9;dark 9;calls 0 to 2 0 10 0 0;habit a 1;").close(0), 1);
        due("over: never", over(house).close(0), 3);
    }

    void closeCountsTheLightOnToo() {
        due("dark costs as much as the last", in("house 2;bowl 2;worths 5 0 0;dark 0;calls 0 to 0 0 10 0 0;habit a 1;").close(0), 1);
        due("never", in("house 2;bowl 2;worths 5 0 0;dark 1;calls 0 to 0 0 10 0 0;habit a 1;").close(0), 2);
    }

    void habitsOfEqualOnesTheFirst() {
        due("all equal", in("house 1;habit a 3;habit b 2;habit c 1;habit d 0;").habits(), 0);
        due("the second and the fourth", in("house 1;bowl 3;worths 5 0 0;calls 0 to 0 0 10 0 0;habit a 0;habit b 2;habit c 0;habit d 1;").habits(), 1);
        due("the fourth alone", in("house 1;bowl 3;calls 0 to 0 0 10 0 0;habit a 0;habit b 2;habit c 1;habit d 3;").habits(), 3);
        due("the first alone", in("house 1;bowl 3;calls 0 to 0 0 10 0 0;habit a 3;habit b 1;habit c 2;habit d 0;").habits(), 0);
        due("all less than nothing", in("house 1;without 9;calls 0 to 0 0 10 0 0;habit a 0;habit b 2;").habits(), 0);
    }

    // SURELY, MOST, ENOUGH, PEAK.

    void surelyTheLastGetsSomething() {
        int[] fewest = {3, 5, 7};
        for (int each = 1; each <= 3; each++) {
            for (int bowl = 0; bowl <= 9; bowl++) {
                due("bowl " + bowl + " each " + each, in("house 1;bowl " + bowl + ";calls 0 to 0 0 0 0 10;").surely(each),
                    bowl >= fewest[each - 1] ? 1000000 : 0);
            }
        }
    }

    void surelyNobodyComes() {
        due("an empty bowl", in("house 24;").surely(3), 1000000);
        due("0.1 nobody", in("house 1;calls 0 to 0 1 9 0 0;").surely(1), 100000);
    }

    void surelyIsCutAtEach() {
        // 0.9 to the 8th is 0.43046721; cut at each of eight it is 430466.
        due("eight quarters", in("house 8;calls 0 to 7 9 1 0 0;").surely(1), 430466);
        due("813,104.1, of 765,274.5 and 47,829.6", in("house 8;bowl 1;calls 0 to 7 9 1 0 0;").surely(1), 813104);
    }

    void surelyNoApples() {
        due("apples", in("house 1;apples 12 worth 9;calls 0 to 0 0 10 0 0;").surely(1), 0);
    }

    void surelyTheWordBringsOneMore() {
        String house = "house 2;bowl 6;word 2;calls 0 to 1 0 10 0 0;";
        due("one each, no word", in(house).surely(1), 1000000);
        due("two each, three come", in(house).surely(2), 1000000);
        due("three each, three come", in(house).surely(3), 0);
        due("the word is out", gone("house 2;bowl 3;word 2;calls 1 to 1 0 10 0 0;", 1, 2).surely(1), 0);
        due("the word is out, one more there", gone("house 2;bowl 4;word 2;calls 1 to 1 0 10 0 0;", 1, 2).surely(1), 1000000);
        due("the word is not out", gone("house 2;bowl 2;word 2;calls 1 to 1 0 10 0 0;", 1, 1).surely(1), 1000000);
        due("no word by none who came", in("house 2;bowl 1;word 1;calls 1 to 1 0 10 0 0;").surely(1), 1000000);
    }

    void mostNoLessThanSoMany() {
        LastsEvening x = in("house 1;bowl 3;calls 0 to 0 0 6 4 0;");
        due("surely 3", x.surely(3), 600000);
        due("as many", x.most(600000), 3);
        due("one more", x.most(600001), 2);
    }

    void mostOf1And2And3() {
        LastsEvening x = in("house 1;bowl 5;calls 0 to 0 0 0 0 10;");
        due("two", x.most(1), 2);
        due("by 0 always three", x.most(0), 3);
        due("one", in("house 1;bowl 3;calls 0 to 0 0 0 0 10;").most(1000000), 1);
        due("three", in("house 1;bowl 7;calls 0 to 0 0 0 0 10;").most(1000000), 3);
        due("none", in("house 1;bowl 2;calls 0 to 0 0 0 0 10;").most(1), -1);
    }

    void enoughTheFewest() {
        LastsEvening x = in("house 2;bowl 9;calls 0 to 1 0 0 5 5;");
        due("for all", x.enough(1, 1000000), 6);
        due("for one in four", x.enough(1, 250000), 4);
        due("for more", x.enough(1, 250001), 5);
        due("for 0 none", x.enough(1, 0), 0);
        due("by two", x.enough(2, 250000), 7);
    }

    void enoughTheBowlsAtMost() {
        due("just the bowl", in("house 1;bowl 3;calls 0 to 0 0 0 0 10;").enough(1, 1000000), 3);
        due("not even with the bowl", in("house 1;bowl 2;calls 0 to 0 0 0 0 10;").enough(1, 1000000), -1);
        due("46 callers, two each but the last", in("house 24;bowl 120;calls 0 to 22 0 0 10 0;").enough(2, 1000000), 91);
        due("40 callers, three each but the last", in("house 20;bowl 120;calls 0 to 19 0 0 10 0;").enough(3, 1000000), 118);
    }

    void enoughWithMoreThanIsThereNow() {
        due("the bowl is empty now", gone("house 2;bowl 3;calls 1 to 1 0 0 10 0;", 1, 3).enough(1, 1000000), 2);
    }

    void enoughTheWordAsItIs() {
        String house = "house 2;bowl 9;word 2;calls 1 to 1 0 10 0 0;";
        due("out", gone(house, 1, 2).enough(1, 1000000), 2);
        due("not out", gone(house, 1, 1).enough(1, 1000000), 1);
        due("out, three each", gone(house, 1, 3).enough(3, 1000000), 4);
        due("of 120", gone("house 24;bowl 120;word 2;calls 1 to 23 0 0 10 0;", 1, 2).enough(2, 1), -1);
    }

    void peakTheFewestOfEqualOnes() {
        due("all equal", in("house 1;bowl 9;").peak(0), 0);
        due("from two on equal", in("house 1;bowl 9;worths 5 5 0;calls 0 to 0 0 10 0 0;").peak(0), 2);
        due("one more is worth less", in("house 1;bowl 9;worths 5 5 0;left 1;calls 0 to 0 0 10 0 0;").peak(0), 2);
    }

    void peakTheBowlsAtMost() {
        due("the bowl", in("house 1;bowl 2;calls 0 to 0 0 10 0 0;").peak(0), 2);
        due("three would be", in("house 1;bowl 4;calls 0 to 0 0 10 0 0;").peak(0), 3);
        due("1", in("house 1;bowl 4;worths 5 0 0;left 1;calls 0 to 0 0 10 0 0;").peak(0), 1);
        due("1 of 1", in("house 1;bowl 1;calls 0 to 0 0 10 0 0;").peak(0), 1);
        due("0", in("house 1;bowl 4;left 1;").peak(0), 0);
        due("more than is there now", gone("house 2;bowl 3;calls 1 to 1 0 10 0 0;", 1, 3).peak(0), 3);
        due("120", in("house 24;bowl 120;worths 9 9 9;calls 0 to 23 0 0 10 0;").peak(0), 120);
    }

    void peakSoManyApples() {
        LastsEvening x = in("house 1;bowl 9;apples 2 worth 20;worths 5 3 1;left 1;calls 0 to 0 0 0 10 0;");
        due("none", x.peak(0), 6);
        due("one", x.peak(1), 0);
        due("two", x.peak(2), 0);
    }

    void peakTheWordAsItIs() {
        String house = "house 2;bowl 9;worths 5 3 0;word 2;left 1;calls 1 to 1 0 10 0 0;";
        due("out", gone(house, 1, 2).peak(0), 4);
        due("not out", gone(house, 1, 1).peak(0), 2);
    }

    // TALK, FENCE.

    void talkWithoutWordIs0() {
        due("none told", in(TWO).talk(), 0);
        due("nobody to tell it", in("house 2;bowl 9;word 1;").talk(), 0);
    }

    void talkNorTheWordThatIsOut() {
        due("the one it brings gets three", gone("house 2;bowl 9;word 1;", 1, 1).talk(), 6000);
        due("the one it brings goes off without", gone("house 2;bowl 1;word 1;without 10;dark 99;", 1, 1).talk(), -10000);
    }

    void talkNothingBringsMore() {
        due("one more in the second", in("house 2;bowl 9;worths 5 0 0;word 1;calls 0 to 0 0 10 0 0;").talk(), 5000);
        due("of a last quarter nothing", in("house 1;bowl 9;worths 5 0 0;word 1;calls 0 to 0 0 10 0 0;").talk(), 0);
    }

    void fenceOfNoneOrAllToffees() {
        String house = "house 1;bowl 2;worths 5 3 1;without 10;calls 0 to 0 0 10 0 0;";
        due("theirs is empty", in(house).fence(0), 10000 - 8000 + 10000);
        due("each has enough", in(house).fence(2), 0);
        LastsEvening x = in(house);
        x.come(1);
        x.give(2);
        due("ours is empty", x.fence(2), 10000 + 10000 - 8000);
        due("both are", x.fence(0), 0);
    }

    void fenceOfMoreThanTheBowl() {
        due("120", in("house 1;bowl 0;left 3;without 10;worths 5 0 0;calls 0 to 0 0 10 0 0;").fence(120), 10000 - 342000 - (5000 - 351000) + 10000);
        due("240 together", in("house 1;bowl 120;left 3;without 10;worths 5 0 0;calls 0 to 0 0 0 0 10;").fence(120), 30000 - 222 * 3000 - 2 * (15000 - 111 * 3000));
    }

    void fence0To6Together() {
        due("six", in("house 1;bowl 5;worths 5 0 0;without 10;calls 0 to 0 0 0 0 10;").fence(1), 30000 - 15000 - (5000 - 20000));
        due("six, one too few", in("house 1;bowl 4;worths 5 0 0;without 10;calls 0 to 0 0 0 0 10;").fence(1), 25000 - 10000 - 15000 - (5000 - 20000));
        due("none", in("house 1;bowl 4;worths 5 0 0;without 10;").fence(1), 0);
    }

    void fenceChancesInHundredths() {
        // Together: none 0.25, one 0.5, two 0.25.
        due("halves", in("house 1;bowl 1;worths 8 0 0;without 4;calls 0 to 0 5 5 0 0;").fence(0), 8 * 500 + (8 - 4) * 250 - 4000 + 2000);
    }

    void fenceIsCutAtEach() {
        // Together 190, then 343.9; apart 190 and 0.
        due("two quarters", in("house 2;bowl 1;" + ONE_IN_TEN + "1 9 1 0 0;").fence(0), 343 - 190);
        due("towards 0", in("house 2;bowl 1;left 1;" + ONE_IN_TEN + "1 9 1 0 0;").fence(0), -312 + 620);
        // Together 320.76 and 241.74 and 20 are 582.5.
        due("three quarters", in("house 3;bowl 1;" + ONE_IN_TEN + "2 9 1 0 0;").fence(1), 582 - 2 * 271);
    }

    void fenceWithoutApplesWordOff() {
        due("apples", in("house 1;apples 9 worth 9;without 10;calls 0 to 0 0 10 0 0;").fence(1), 3000 - 10000 + 10000 - 3000);
        due("word", gone("house 2;bowl 9;word 1;without 10;", 1, 1).fence(0), 0);
        due("word to come", in("house 2;bowl 1;word 1;without 10;calls 0 to 0 0 10 0 0;").fence(1), 0);
        due("off", in("house 1;bowl 3;dark 0;without 10;worths 5 0 0;calls 0 to 0 0 0 0 10;").fence(0), 0);
        due("off, together", in("house 1;bowl 4;dark 0;without 10;worths 5 0 0;calls 0 to 0 0 0 0 10;").fence(0), 20000 - 20000 - 15000 + 30000);
    }

    void fenceGive0To3() {
        // Both toffees are kept for the quarter of the eggs: -2 and 2 together; apart 2, and -51.
        due("give 0", in("house 2;bowl 2;worths 1 0 0;without 1;eggs 50 from 1;calls 0 to 1 0 10 0 0;").fence(0), 0 - 2000 + 51000);
        due("give 3", in("house 1;bowl 6;worths 5 3 1;calls 0 to 0 0 10 0 0;").fence(0), 18000 - 9000);
    }

    void fenceOf24Quarters() {
        // One house: 2 come in each; apart 24 toffees for 24, none for 24.
        due("24", in("house 24;bowl 24;worths 5 0 0;without 1;calls 0 to 23 0 10 0 0;").fence(0), 120000 - 24000 - 120000 + 24000);
        // One house gives all 120 to 48; apart 72 to 24 and 48 are left, and none to 24.
        due("what is left", in("house 24;bowl 120;worths 5 0 0;left 1;without 1;calls 0 to 23 0 10 0 0;").fence(0), 240000 - (120000 - 48000) + 24000);
        LastsEvening x = in("house 24;bowl 2;worths 5 3 0;without 10;calls 23 to 23 0 10 0 0;");
        for (int quarter = 1; quarter <= 23; quarter++) {
            x.quarter();
        }
        due("of the last quarter", x.fence(0), 10000 - 8000 + 10000);
    }

    void fenceEachGetsAlike() {
        // One house gives one number to all six, two houses may give two.
        due("seven toffees", in("house 1;bowl 3;worths 5 4 3;calls 0 to 0 0 10 0 0;").fence(1), 9000 + 9000 - 12000 - 5000);
    }

    // NIGHT, RAINS, TONIGHT.

    void nightOneFewer0AtLeast() {
        String[] rows = {"10 0 0 0", "0 10 0 0", "0 0 10 0", "0 0 0 10"};
        for (int many = 0; many <= 3; many++) {
            due("wet, else " + many, in("house 1;rain 10;bowl 9;worths 5 0 0;calls 0 to 0 " + rows[many] + ";").tonight(), 5000 * Math.max(0, many - 1));
        }
    }

    void nightTheWordBringsOneAllTheSame() {
        String[] rows = {"10 0 0 0", "0 10 0 0", "0 0 10 0", "0 0 0 10"};
        for (int many = 0; many <= 3; many++) {
            due("wet, else " + many, gone("house 2;rain 10;bowl 9;worths 5 0 0;word 1;calls 1 to 1 " + rows[many] + ";", 1, 1).tonight(),
                5000 * (1 + Math.max(0, many - 1)));
        }
    }

    void rainsBeginsWithRain() {
        for (int rain = 0; rain <= 10; rain++) {
            due("rain " + rain, in("house 1;rain " + rain + ";").rains(), rain * 100000);
        }
    }

    void rainsEachTimeCallersComeNoneToo() {
        // Wet: none 0.7, one 0.2, two 0.1, three never. Dry: none 0.4, one 0.3, two 0.2, three 0.1.
        int[] rains = {350000, 100000, 50000, 0};
        int[] dry = {200000, 150000, 100000, 50000};
        for (int many = 0; many <= 3; many++) {
            LastsEvening x = in("house 2;rain 5;calls 0 to 1 4 3 2 1;");
            x.come(many);
            due("come " + many, x.rains(), 1000000L * rains[many] / (rains[many] + dry[many]));
        }
    }

    void rainsNotByAnythingElse() {
        LastsEvening x = in("house 3;rain 5;bowl 9;calls 0 to 2 4 3 2 1;");
        x.quarter();
        due("no come", x.rains(), 500000);
        x.come(1);
        due("come", x.rains(), 400000);
        x.give(1);
        x.quarter();
        x.off();
        due("give, quarter, off", x.rains(), 400000);
        due("in the dark", x.come(1), false);
        due("no come in the dark", x.rains(), 400000);
        x.judged(2);
        due("judged", x.rains(), 400000);
    }

    void rainsIsCutAtEach() {
        // 350,000 of 550,000 are 636,363; then 63,636 wet and 72,727 dry of it.
        LastsEvening x = in("house 2;rain 5;calls 0 to 0 4 3 2 1;calls 1 to 1 2 6 1 1;");
        x.come(0);
        due("once", x.rains(), 636363);
        x.quarter();
        x.come(2);
        due("twice", x.rains(), 1000000L * 63636 / (63636 + 36363));
    }

    void rainsWithoutTheOneTheWordBrought() {
        int[] rains = {350000, 100000, 50000, 0};
        int[] dry = {200000, 150000, 100000, 50000};
        for (int many = 0; many <= 3; many++) {
            LastsEvening x = gone("house 2;bowl 9;word 1;rain 5;calls 0 to 0 0 0 0 10;calls 1 to 1 4 3 2 1;", 1, 1);
            due("stays: none such", x.rains(), 500000);
            x.come(many + 1);
            due("come " + (many + 1), x.rains(), 1000000L * rains[many] / (rains[many] + dry[many]));
        }
    }

    void rainsIfBothAre0ItStays() {
        LastsEvening x = in("house 1;rain 3;calls 0 to 0 0 0 0 10;");
        x.come(1);
        due("neither wet nor dry", x.rains(), 300000);
        LastsEvening y = in("house 1;rain 3;");
        y.come(3);
        due("without calls", y.rains(), 300000);
    }

    void rainsOneOfThemIs0() {
        LastsEvening x = in("house 2;rain 3;calls 0 to 1 0 0 0 10;");
        x.come(2);
        due("wet it is", x.rains(), 1000000);
        x.quarter();
        x.come(3);
        due("neither, then", x.rains(), 1000000);
        LastsEvening y = in("house 2;rain 3;calls 0 to 1 0 0 0 10;");
        y.come(3);
        due("dry it is", y.rains(), 0);
        y.quarter();
        y.come(2);
        due("neither, then", y.rains(), 0);
    }

    void rainsOfAFewMillionths() {
        // 100,000, 12,195, 1,369, 151, 16, 1.
        int[] rains = {12195, 1369, 151, 16, 1};
        LastsEvening x = in("house 6;rain 1;calls 0 to 4 0 0 9 1;calls 5 to 5 9 0 0 1;");
        for (int p : rains) {
            x.come(2);
            due("two when dry is the likelier", x.rains(), p);
            x.quarter();
        }
        x.come(2);
        due("0.1 and 0 are cut to 0 both: it stays", x.rains(), 1);
    }

    void rainsOfOneMillionthAgainst0() {
        LastsEvening x = in("house 5;rain 1;calls 0 to 3 0 0 9 1;calls 4 to 4 9 0 0 1;");
        for (int quarter = 0; quarter < 4; quarter++) {
            x.come(2);
            x.quarter();
        }
        due("16", x.rains(), 16);
        x.come(2);
        due("1.6, cut 1, and 0: wet it is", x.rains(), 1000000);
    }

    void tonightRainsTimesTheWetAndTheRestTimesTheDryOne() {
        // Two come when dry (10), one when wet (5).
        for (int rain = 0; rain <= 10; rain++) {
            due("rain " + rain, in("house 1;bowl 9;worths 5 0 0;rain " + rain + ";calls 0 to 0 0 0 10 0;").tonight(), 10000 - 500 * rain);
        }
    }

    void tonightTheWordGoesRoundOnAWetNightToo() {
        String house = "house 2;bowl 9;worths 5 0 0;word 3;rain 10;calls 0 to 0 0 0 10 0;";
        due("one comes, one more by the word", in(house).tonight(), 10000);
        due("a dry one", in(house.replace("rain 10", "rain 0")).tonight(), 15000);
    }

    void tonightInTheLastOf24Quarters() {
        due("two come, one when wet", in("house 24;bowl 9;worths 5 0 0;rain 10;calls 23 to 23 0 0 10 0;").tonight(), 5000);
        due("in the midst", in("house 24;bowl 9;worths 5 0 0;rain 10;calls 12 to 12 0 0 10 0;").tonight(), 5000);
    }

    void tonightIsCut() {
        LastsEvening x = in("house 2;rain 5;bowl 9;worths 1 0 0;dark 99;calls 0 to 0 4 3 2 1;calls 1 to 1 0 0 10 0;");
        x.come(0);
        x.quarter();
        due("636,363 wet of 1,000, 363,637 dry of 2,000", x.tonight(), 1363);
        LastsEvening y = in("house 2;rain 5;without 1;dark 99;calls 0 to 0 4 3 2 1;calls 1 to 1 0 0 10 0;");
        y.come(0);
        y.quarter();
        due("towards 0", y.tonight(), -1363);
    }

    void tonightValueElseIsADryOnes() {
        LastsEvening x = in("house 1;rain 10;bowl 9;worths 5 0 0;calls 0 to 0 0 0 10 0;habit a 1;");
        due("value", x.value(0, 9, 0, false), 10000);
        due("mean", x.mean(0), 10000);
        due("left", x.left(0), 7000);
        due("peak", x.peak(0), 2);
        due("surely", in("house 1;rain 10;bowl 1;calls 0 to 0 0 0 10 0;").surely(1), 0);
        due("calls", x.calls(0, 2), 10);
        due("read", x.read(0, 1, 7, 0), 1000000);
    }

    // READ, SHEETS.

    void readAtTheBeginning() {
        LastsEvening x = in("house 2;bowl 3;habit a 1;calls 0 to 1 0 10 0 0;");
        due("the bowl", x.read(0, 0, 3, 0), 1000000);
        due("none came", x.read(0, 0, 3, 1), 0);
        due("another number", x.read(0, 0, 2, 0), 0);
        due("can't be", x.read(0, 0, 2, 1), -1);
    }

    void readAtTheEnd() {
        LastsEvening x = in("house 2;bowl 3;habit a 1;calls 0 to 1 0 10 0 0;");
        due("one", x.read(0, 1, 2, 0), 1000000);
        due("both", x.read(0, 2, 1, 0), 1000000);
        due("two came", x.read(0, 2, 1, 1), 2);
    }

    void readIsCutForEachNumberAtEachStep() {
        LastsEvening x = in("house 9;bowl 20;habit one 1;habit none 0;calls 0 to 8 9 1 0 0;");
        due("eight steps of 0.9", x.read(0, 8, 20, 0), 430466);
        due("what came by both ways, cut together", x.read(0, 9, 19, 0), 387419);
        due("seven steps", x.read(0, 7, 19, 0), 372008);
        long sum = 0;
        for (int toffees = 11; toffees <= 20; toffees++) {
            sum += x.read(0, 9, toffees, 0);
        }
        due("of each how many came cut alone", x.read(1, 9, 20, 0), sum);
        due("less than all", sum < 1000000, true);
    }

    void readOfEqualOnesTheFewest() {
        LastsEvening x = in("house 1;bowl 9;habit a 0;calls 0 to 0 0 4 2 4;");
        due("one or three", x.read(0, 1, 9, 1), 1);
        due("three", in("house 1;bowl 9;habit a 0;calls 0 to 0 0 3 3 4;").read(0, 1, 9, 1), 3);
        due("none or two", in("house 1;bowl 9;habit a 0;calls 0 to 0 4 2 4 0;").read(0, 1, 9, 1), 0);
    }

    void readCutTo0() {
        LastsEvening x = in("house 7;bowl 7;habit a 1;calls 0 to 6 9 1 0 0;");
        due("one in a million", x.read(0, 6, 1, 0), 1);
        due("six came", x.read(0, 6, 1, 1), 6);
        due("cut to 0", x.read(0, 7, 0, 0), 0);
        due("none is the likeliest", x.read(0, 7, 0, 1), -1);
    }

    void readAboveTheBowlCantBe() {
        LastsEvening x = in("house 1;bowl 3;habit a 0;");
        due("the bowl", x.read(0, 1, 3, 0), 1000000);
        due("above", x.read(0, 1, 4, 0), 0);
        due("above", x.read(0, 1, 4, 1), -1);
        due("120", x.read(0, 1, 120, 0), 0);
        due("a bowl of 120", in("house 1;bowl 120;habit a 0;").read(0, 1, 120, 0), 1000000);
    }

    void readWithoutApples() {
        LastsEvening x = in("house 2;bowl 5;apples 9 worth 9;habit a reserve;habit b 4;word 1;calls 0 to 1 0 10 0 0;");
        due("no reserve", x.read(0, 2, 5, 0), 1000000);
        due("it is 0", in("house 1;bowl 5;apples 9 worth 9;habit a (reserve=0)*2;calls 0 to 0 0 10 0 0;").read(0, 1, 3, 0), 1000000);
        due("give 4 gives nothing", x.read(1, 2, 5, 0), 1000000);
        due("and no word", x.read(1, 2, 5, 1), 2);
    }

    void readTheWordBringsOne() {
        LastsEvening x = in("house 3;bowl 20;habit a 2;habit b 1;word 2;calls 0 to 0 0 10 0 0;");
        due("one, one, one", x.read(0, 3, 14, 1), 3);
        due("one alone", x.read(1, 3, 19, 1), 1);
    }

    void readHowManyOfTheWordAndWithoutItTogether() {
        // Three came and nothing is left: with word out or not.
        LastsEvening x = in("house 2;bowl 3;habit a 1+(time=1);word 2;calls 0 to 1 0 5 0 5;");
        due("all ways", x.read(0, 2, 0, 0), 1000000);
        due("four the likeliest", x.read(0, 2, 0, 1), 4);
    }

    void readByChanceAndWord() {
        LastsEvening x = in("house 3;bowl 9;habit a 1;word 1;calls 0 to 2 5 5 0 0;");
        int[] chances = {0, 0, 0, 0, 125000, 250000, 250000, 125000, 125000, 125000};
        for (int toffees = 0; toffees <= 9; toffees++) {
            due("toffees " + toffees, x.read(0, 3, toffees, 0), chances[toffees]);
            due("how many, toffees " + toffees, x.read(0, 3, toffees, 1), chances[toffees] == 0 ? -1 : 9 - toffees);
        }
    }

    void readATenthOfAMillionthIsOfTheSumYet() {
        LastsEvening x = in("house 7;bowl 3;habit a 2;calls 0 to 0 0 1 9 0;calls 1 to 2 1 1 8 0;calls 3 to 3 1 8 1 0;calls 4 to 4 1 9 0 0;"
            + "calls 5 to 6 1 1 8 0;");
        due("nine tenths and one are one", x.read(0, 7, 0, 0), 999993);
    }

    void readAsOftenAsAsked() {
        LastsEvening x = in("house 2;habit a 0;calls 0 to 0 5 5 0 0;");
        for (int i = 0; i < 3; i++) {
            due("all", x.read(0, 1, 0, 0), 1000000);
            due("of equal ones the fewest", x.read(0, 2, 0, 1), 0);
        }
        fed(x, "house 1;bowl 1;habit a 1;calls 0 to 0 5 5 0 0;").house();
        due("another house", x.read(0, 1, 0, 0) + x.read(0, 1, 0, 1), 500001);
        fed(x, "house 2;bowl 3;habit a 3;habit b 1;word 3;calls 0 to 0 0 10 0 0;").house();
        due("a word", x.read(0, 1, 0, 0), 1000000);
        due("no word behind it", x.read(1, 2, 2, 1), 1);
    }

    void readMostCallers() {
        LastsEvening x = in("house 24;bowl 120;habit a 1;word 1;calls 0 to 23 0 0 0 10;");
        due("95 came", x.read(0, 24, 25, 1), 95);
        due("surely", x.read(0, 24, 25, 0), 1000000);
    }

    void readFromTheBeginningTheLightOn() {
        LastsEvening x = in("house 2;bowl 3;habit a 1;calls 0 to 1 0 10 0 0;");
        x.come(3);
        x.give(1);
        x.off();
        due("whatever was by hand", x.read(0, 2, 1, 0), 1000000);
        x.quarter();
        x.quarter();
        due("over", x.read(0, 2, 1, 1), 2);
    }

    void sheetsOfNobody() {
        due("none of none", in("house 1;twice 7;").sheets(0, 0), 1000000);
    }

    void sheetsOf8ExactButForTheLastCut() {
        // 0.7 and 0.3 to so many times the ways, in millionths.
        int[] chances = {57648, 197650, 296475, 254121, 136136, 46675, 10001, 1224, 65};
        for (int twice = 0; twice <= 8; twice++) {
            due("twice " + twice, in("house 1;twice 3;").sheets(8, twice), chances[twice]);
        }
    }

    void sheetsTwice0And10() {
        due("twice 0, none", in("house 1;twice 0;").sheets(8, 0), 1000000);
        due("twice 0, one", in("house 1;twice 0;").sheets(8, 1), 0);
        due("twice 10, all", in("house 1;twice 10;").sheets(8, 8), 1000000);
        due("twice 10, all but one", in("house 1;twice 10;").sheets(8, 7), 0);
    }

    // DRAW, YEARS.

    private static int[] draws(long seed, int many) {
        int[] draws = new int[many];
        long g = seed;
        for (int i = 0; i < many; i++) {
            g = (g * 1103515245L + 12345L) % 2147483648L;
            draws[i] = (int) (g / 65536L % 10L);
        }
        return draws;
    }

    void drawOfTheFirstSeedsBelow10() {
        // By hand: 1 * 1103515245 + 12345 = 1103527590; by 65536 it is 16838; modulo 10 it is 8.
        due("seed 1", draws(1, 1)[0], 8);
        due("seed 0", draws(0, 1)[0], 0);
        int[] callers = {0, 0, 0, 0, 1, 1, 1, 2, 2, 3};
        LastsEvening x = in("house 1;habit a 0;calls 0 to 0 4 3 2 1;");
        for (int seed = 0; seed < 120; seed++) {
            due("seed " + seed, x.years(seed, 1, 0, 2), callers[draws(seed, 1)[0]]);
        }
        due("seed 9999", x.years(9999, 1, 0, 2), callers[draws(9999, 1)[0]]);
    }

    void drawOfEachQuarterAndEveningGoesOn() {
        LastsEvening x = in("house 3;habit a 0;calls 0 to 2 4 3 2 1;");
        int[] callers = {0, 0, 0, 0, 1, 1, 1, 2, 2, 3};
        for (int seed = 9989; seed <= 9999; seed++) {
            int[] draws = draws(seed, 60);
            int sum = 0;
            for (int evenings = 1; evenings <= 20; evenings++) {
                for (int i = 3 * evenings - 3; i < 3 * evenings; i++) {
                    sum += callers[draws[i]];
                }
                due("seed " + seed + " evenings " + evenings, x.years(seed, evenings, 0, 2), sum);
            }
        }
    }

    void drawInAQuarterWithoutCallsToo() {
        LastsEvening x = in("house 2;habit a 0;calls 1 to 1 4 3 2 1;");
        int[] callers = {0, 0, 0, 0, 1, 1, 1, 2, 2, 3};
        for (int seed = 0; seed < 30; seed++) {
            due("seed " + seed, x.years(seed, 1, 0, 2), callers[draws(seed, 2)[1]]);
        }
    }

    void drawNoneFirst() {
        String[] rows = {"10 0 0 0", "0 10 0 0", "0 0 10 0", "0 0 0 10"};
        for (int many = 0; many <= 3; many++) {
            for (int seed = 0; seed < 12; seed++) {
                due("always " + many, in("house 1;habit a 0;calls 0 to 0 " + rows[many] + ";").years(seed, 1, 0, 2), many);
            }
        }
    }

    void yearsEachFromTheBeginning() {
        LastsEvening x = in("house 2;bowl 2;apples 1 worth 9;left 1;without 10;habit a 1+3*time;calls 0 to 1 0 10 0 0;");
        due("a toffee, an apple; one left", x.years(3, 1, 0, 0), 3 + 9 - 1);
        due("20 evenings", x.years(3, 20, 0, 0), 20 * 11);
        due("left", x.years(3, 20, 0, 1), 20);
        due("without", x.years(3, 20, 0, 2), 0);
        x.come(3);
        x.give(3);
        x.off();
        due("whatever was by hand", x.years(3, 2, 0, 0), 22);
        ended(x);
        due("over", x.years(3, 2, 0, 1), 2);
    }

    void yearsScoresLessThan0AreToldAs0() {
        LastsEvening x = in("house 1;without 10;habit a 0;calls 0 to 0 0 10 0 0;");
        due("-10", x.years(1, 1, 0, 0), 0);
        due("-200", x.years(1, 20, 0, 0), 0);
        due("without", x.years(1, 20, 0, 2), 20);
        due("0", in("house 1;habit a 0;").years(1, 1, 0, 0), 0);
        due("1", in("house 1;bowl 1;worths 1 0 0;habit a 1;calls 0 to 0 0 10 0 0;").years(1, 1, 0, 0), 1);
    }

    void yearsAtTheEndToo() {
        due("left costs", in("house 1;bowl 9;worths 50 0 0;left 2;habit a 1;calls 0 to 0 0 10 0 0;").years(1, 1, 0, 0), 50 - 16);
        due("left", in("house 1;bowl 9;worths 50 0 0;left 2;habit a 1;calls 0 to 0 0 10 0 0;").years(1, 1, 0, 1), 8);
    }

    void yearsWithTheWordOneMore() {
        LastsEvening x = in("house 3;bowl 20;habit a 2;habit b 1;word 2;calls 0 to 0 0 10 0 0;");
        due("one, one, one", x.years(1, 1, 0, 1), 14);
        due("one alone", x.years(1, 1, 1, 1), 19);
        due("each evening anew", x.years(1, 2, 0, 1), 28);
        LastsEvening y = on("house 2;bowl 9;habit a 1;word 1;dark 7;", "come 1;give 1;off;");
        due("judged", y.judged(2), 3);
        due("not by the word and the dark of what was judged", y.years(1, 1, 0, 0) + y.years(1, 1, 0, 1), 9);
        due("nor this by those", y.judged(2), 3);
    }

    void yearsNobodyByADryNightsChances() {
        due("rain is not asked", in("house 1;rain 10;habit a 0;calls 0 to 0 0 0 10 0;").years(1, 1, 0, 2), 2);
    }

    // MARKS.

    void marksHoldTheEveningAsItIs() {
        LastsEvening x = in("house 4;bowl 9;apples 3 worth 2;word 1;rain 5;without 4;dark 3;calls 0 to 3 4 3 2 1;");
        x.come(2);
        x.give(1);
        x.quarter();
        x.come(2);
        x.give(4);
        String before = state(x);
        x.mark(0, false);
        x.undo();
        x.give(3);
        x.quarter();
        x.come(4);
        x.off();
        x.quarter();
        due("gone back to", x.mark(0, true), true);
        due("all but what can be undone", state(x).equals(before), false);
        LastsEvening y = in("house 4;bowl 9;apples 3 worth 2;word 1;rain 5;without 4;dark 3;calls 0 to 3 4 3 2 1;");
        y.come(2);
        y.give(1);
        y.quarter();
        y.come(2);
        y.give(4);
        y.mark(3, false);
        y.mark(3, true);
        due("the same", state(x), state(y));
    }

    void marksHoldTheWordThatIsToCome() {
        LastsEvening x = in("house 3;bowl 9;word 1;dark 7;");
        x.come(1);
        x.give(1);
        x.mark(1, false);
        x.undo();
        x.quarter();
        x.mark(1, true);
        x.quarter();
        due("the word", x.count(7), 1);
    }

    void marksHoldThatThisQuarterCosts() {
        LastsEvening x = dark("house 3;dark 7;");
        x.mark(2, false);
        x.undo();
        x.come(0);
        x.off();
        x.mark(3, false);
        x.mark(2, true);
        x.quarter();
        due("off before a come", x.score(), -7);
        x.mark(3, true);
        x.quarter();
        due("off behind a come", x.score(), 0);
    }

    void marksHoldTheEvening() {
        LastsEvening x = on("house 2;bowl 9;", "come 1;give 3;");
        x.mark(0, false);
        fed(x, "come 1;give 1;quarter;").evening();
        x.mark(1, false);
        fed(x, "").evening();
        due("none", x.count(11) + x.judged(2), 0);
        x.mark(0, true);
        due("the first", x.count(11) * 100 + x.judged(2), 206);
        x.mark(1, true);
        due("the second", x.count(11) * 100 + x.judged(2), 303);
    }

    void marksNothingCanBeUndoneBehindOne() {
        LastsEvening x = in("house 9;");
        x.quarter();
        x.mark(0, false);
        due("laid: undo stays", x.count(12), 1);
        x.quarter();
        x.mark(0, true);
        due("gone back to: none", x.count(12), 0);
        due("undo", x.undo(), false);
        x.quarter();
        due("what comes behind it", x.count(12), 1);
        due("undo", x.undo() && x.count(1) == 1, true);
        due("no more", x.undo(), false);
    }

    void marksStayWhenGoneBackTo() {
        LastsEvening x = in("house 9;");
        x.mark(2, false);
        for (int i = 0; i < 3; i++) {
            x.quarter();
            due("back", x.mark(2, true) && x.count(1) == 0, true);
        }
    }

    void marksLaidAgainHoldTheLast() {
        LastsEvening x = in("house 9;");
        x.mark(2, false);
        x.quarter();
        x.mark(2, false);
        x.quarter();
        due("back", x.mark(2, true) && x.count(1) == 1, true);
    }

    void marks0To3AreFour() {
        LastsEvening x = in("house 9;");
        for (int mark = 0; mark <= 3; mark++) {
            due("none yet", x.mark(mark, true), false);
            due("laid", x.mark(mark, false), true);
            x.quarter();
        }
        for (int mark = 3; mark >= 0; mark--) {
            due("back", x.mark(mark, true) && x.count(1) == mark, true);
        }
    }

    void marksTheTapeIsNoneOfThem() {
        LastsEvening x = in("house 2;");
        x.mark(0, false);
        fed(x, "off;");
        x.mark(0, true);
        due("signs", x.count(13), 4);
    }
}
