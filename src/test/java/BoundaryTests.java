/** Each boundary that promises 1 to 33 name, in a test named after the promise and the boundary. */
public final class BoundaryTests extends Suite {
    private static final String FULL = "house 3;bowl 5;apples 1 worth 2;worths 9 4 0;left 3;without 10;eggs 30 from 2;word 2;dark 5;"
        + "rain 5;twice 3;calls 0 to 0 0 10 0 0;calls 1 to 2 5 5 0 0;habit one 1;habit all toffees;habit eve here*0+2;";

    public static void main(String[] args) {
        new BoundaryTests().runAll();
    }

    private static LastsEvening full() {
        return on(FULL, "come 1;give 2;quarter;");
    }

    /** The light off, and the evening over. */
    private static LastsEvening darkAndOver() {
        return ended(dark(FULL));
    }

    /** What is asked throws in the dark and when it is over. */
    private void throwsDarkOver(CallIn call) {
        due("open", answer(() -> call.answer(in(FULL))) != THROWS, true);
        dueThrow("dark", () -> call.answer(dark(FULL)));
        dueThrow("over", () -> call.answer(over(FULL)));
        dueThrow("dark and over", () -> call.answer(darkAndOver()));
        due("light on again", answer(() -> call.answer(undone(dark(FULL)))), answer(() -> call.answer(in(FULL))));
    }

    /** What is asked is NONE in the dark and when it is over. */
    private void noneDarkOver(CallIn call) {
        due("open", call.answer(in(FULL)) != LastsEvening.NONE, true);
        due("dark", call.answer(dark(FULL)), -1);
        due("over", call.answer(over(FULL)), -1);
        due("dark and over", call.answer(darkAndOver()), -1);
        due("light on again", call.answer(undone(dark(FULL))), call.answer(in(FULL)));
        due("the last quarter again", call.answer(undone(over(FULL))) != LastsEvening.NONE, true);
    }

    /** What is asked is NONE in the dark, but not when it is over with the light on. */
    private void noneDark(CallIn call) {
        due("open", call.answer(in(FULL)) != LastsEvening.NONE, true);
        due("over", call.answer(over(FULL)) != LastsEvening.NONE, true);
        due("dark", call.answer(dark(FULL)), -1);
        due("dark and over", call.answer(darkAndOver()), -1);
    }

    /** What is asked answers alike in the dark and when it is over. */
    private void alwaysAlike(CallIn call) {
        long open = call.answer(in(FULL));
        due("dark", call.answer(dark(FULL)), open);
        due("over", call.answer(over(FULL)), open);
        due("dark and over", call.answer(darkAndOver()), open);
    }

    private static LastsEvening undone(LastsEvening x) {
        x.undo();
        return x;
    }

    interface CallIn {
        long answer(LastsEvening x);
    }

    // Promise 1.

    void promise01HouseOne() {
        LastsEvening x = new LastsEvening();
        due("quarters", x.count(0), 1);
        due("its quarter", x.calls(0, 0), 10);
        due("no other", x.calls(1, 0), -1);
        due("the end", x.quarter(), 1);
        due("over", x.quarter(), -1);
    }

    void promise01NothingElse() {
        LastsEvening x = new LastsEvening();
        int[] counts = {1, 0, 0, 0, 0, 0, 1, 0, 0, 0, 0, 0, 0, 0, 0};
        for (int what = 0; what <= 14; what++) {
            due("count " + what, x.count(what), counts[what]);
        }
        due("score", x.score(), 0);
        due("undo", x.undo(), false);
        due("no toffee", answer(() -> x.value(0, 1, 0, false)), THROWS);
        due("no apple", answer(() -> x.value(0, 0, 1, false)), THROWS);
        due("value", x.value(0, 0, 0, true), 0);
        due("judged", x.judged(0) + x.judged(1) + x.judged(2), -2);
        for (int mark = 0; mark <= 3; mark++) {
            due("mark " + mark, x.mark(mark, true), false);
        }
    }

    void promise01NoHabitNoRainNoTwice() {
        LastsEvening x = new LastsEvening();
        due("habits", x.habits(), -1);
        dueThrow("mean", () -> x.mean(0));
        dueThrow("left", () -> x.left(0));
        due("close", x.close(0), -1);
        due("read", x.read(0, 0, 0, 0), -1);
        due("years", x.years(0, 1, 0, 0), -1);
        due("rains", x.rains(), 0);
        due("sheets", x.sheets(8, 0), 1000000);
    }

    void promise01NoCosts() {
        LastsEvening x = new LastsEvening();
        x.come(3);
        due("without", x.give(3), 0);
        x.off();
        x.quarter();
        due("dark, left", x.score(), 0);
        due("no word", x.count(7), 0);
    }

    void promise01NoneIsMinusOne() {
        due("NONE", LastsEvening.NONE, -1);
    }

    void promise01TwoShareNothing() {
        LastsEvening x = new LastsEvening();
        LastsEvening y = in(FULL);
        y.come(2);
        y.mark(0, false);
        due("house", x.count(0), 1);
        due("here", x.count(4), 0);
        due("mark", x.mark(0, true), false);
        due("tape", fed(y, "abc").count(13) - x.count(13), 3);
    }

    // Promise 2.

    void promise02UpTo24Signs() {
        due("none", new LastsEvening().feed(0, 0, 0), 0);
        due("one", new LastsEvening().feed(0, 0, 10), 1);
        due("24", new LastsEvening().feed(0x2020202020202020L, 0x7e7e7e7e7e7e7e7eL, 0x0a0a0a0a0a0a0a0aL), 24);
        due("all left out", new LastsEvening().feed(-1, Long.MIN_VALUE, 0x7f1f0b0900ff80L), 0);
    }

    void promise02BehindTheTape() {
        LastsEvening x = new LastsEvening();
        x.feed(0x686f757365L, 0, 0);
        due("behind", x.feed(0, 0x20L, 0x32L), 7);
        x.feed(0x3bL, 0, 0);
        due("house 2;", x.house(), 0);
        due("house 2", x.count(0), 2);
    }

    void promise02OfEachTheHighestByteFirst() {
        LastsEvening x = new LastsEvening();
        x.feed(0x686f757365203234L, 0x3b626f776c203132L, 0x303b6c6566742039L);
        x.feed(0x393b000000000000L, 0, 0);
        due("house 24;bowl 120;left 99;", x.house(), 0);
        due("24, 120", x.count(0) * 1000 + x.count(2), 24120);
    }

    void promise02BetweenOthers() {
        LastsEvening x = new LastsEvening();
        due("signs", x.feed(0x686f007f75ff7365L, 0x0920000100310080L, 0x1f0d3b0000000000L), 8);
        due("house 1;", x.house(), 0);
    }

    void promise02HowManyThereAreOfAThousand() {
        LastsEvening x = new LastsEvening();
        for (int i = 1; i <= 45; i++) {
            due("feed " + i, x.feed(0x2020202020202020L, 0x2020202020202020L, 0x2020202020202020L), Math.min(1000, 24 * i));
        }
        due("one more", x.feed(32, 0, 0), 1000);
    }

    // Promises 3 and 4: see TapeTests.

    void promise03HouseAnswers0OrItsFault() {
        LastsEvening x = new LastsEvening();
        due("nothing", x.house(), 1);
        due("a house", fed(x, "house 24;").house(), 0);
        due("the tape is taken", x.house(), 1);
        due("it stays", x.count(0), 24);
    }

    void promise03HouseInTheDarkAndOver() {
        LastsEvening x = darkAndOver();
        due("house", fed(x, "house 2;").house(), 0);
        due("the light is on", x.count(6), 1);
        due("open", x.stay(), 1);
    }

    void promise04EveningAnswers0OrItsFault() {
        LastsEvening x = new LastsEvening();
        due("nothing", x.evening(), 0);
        due("an evening", fed(x, "off;").evening(), 0);
        due("a fault", fed(x, "off").evening(), 1 + 16 * 3);
        due("it stays", x.count(11), 1);
    }

    void promise04EveningInTheDarkAndOver() {
        LastsEvening x = darkAndOver();
        due("evening", fed(x, "come 1;give 2;").evening(), 0);
        due("judged", x.judged(2), 13);
    }

    // Promise 5.

    void promise05CallsOfAQuarter() {
        noneBeside("quarter", 0, 2, quarter -> in(FULL).calls(quarter, 0));
        noneBeside("quarter", 0, 0, quarter -> new LastsEvening().calls(quarter, 0));
        noneBeside("quarter", 0, 23, quarter -> in("house 24;").calls(quarter, 3));
    }

    void promise05CallsOfSoMany() {
        noneBeside("many", 0, 3, many -> in(FULL).calls(0, many));
    }

    void promise05CallsOfTen() {
        int[] chances = {1, 2, 3, 4};
        for (int many = 0; many <= 3; many++) {
            due("many " + many, in("house 1;calls 0 to 0 1 2 3 4;").calls(0, many), chances[many]);
            due("untold " + many, in("house 1;").calls(0, many), many == 0 ? 10 : 0);
        }
    }

    void promise05CallsWithoutTheWord() {
        LastsEvening x = gone("house 2;word 1;calls 0 to 1 0 0 0 10;", 3, 1);
        due("the word is out", x.count(7), 1);
        due("three", x.calls(1, 3), 10);
        due("four are others", x.calls(1, 4), -1);
    }

    void promise05CallsInTheDarkAndOver() {
        alwaysAlike(x -> x.calls(1, 1));
    }

    // Promise 6.

    void promise06Come0To3() {
        for (int many = 0; many <= 3; many++) {
            LastsEvening x = full();
            due("come " + many, x.come(many), true);
            due("here", x.count(4), many);
            due("came till now", x.count(9), many);
            due("a come, of none, too", x.count(14), 1);
            due("it can be undone", x.count(12), 1);
        }
        for (int many : new int[] {-1, 4, 5, Integer.MIN_VALUE, Integer.MAX_VALUE}) {
            LastsEvening x = full();
            refused("come " + many, x, 0, () -> x.come(many) ? 1 : 0);
        }
    }

    void promise06Come1To4WithTheWord() {
        for (int many = 1; many <= 4; many++) {
            LastsEvening x = gone(FULL, 1, 2);
            due("come " + many, x.come(many), true);
            due("here", x.count(4), many);
            due("came till now", x.count(9), many + 1);
        }
        for (int many : new int[] {0, 5, -1, Integer.MIN_VALUE, Integer.MAX_VALUE}) {
            LastsEvening x = gone(FULL, 1, 2);
            refused("come " + many, x, 0, () -> x.come(many) ? 1 : 0);
        }
    }

    void promise06ComeTwice() {
        for (int many = 0; many <= 3; many++) {
            LastsEvening x = full();
            x.come(many);
            refused("behind " + many, x, 0, () -> x.come(1) ? 1 : 0);
            refused("none behind " + many, x, 0, () -> x.come(0) ? 1 : 0);
        }
        LastsEvening y = full();
        y.come(1);
        y.give(1);
        refused("behind a give", y, 0, () -> y.come(1) ? 1 : 0);
    }

    void promise06ComeInTheDark() {
        LastsEvening x = full();
        x.off();
        refused("at once", x, 0, () -> x.come(1) ? 1 : 0);
        x.quarter();
        refused("later", x, 0, () -> x.come(0) ? 1 : 0);
    }

    void promise06ComeAtTheEnd() {
        LastsEvening x = ended(full());
        refused("over", x, 0, () -> x.come(1) ? 1 : 0);
        x.undo();
        due("the last quarter", x.come(1), true);
    }

    void promise06ComeWhateverCallsTell() {
        LastsEvening x = in(FULL);
        due("none tell of three", x.calls(0, 3), 0);
        due("three", x.come(3), true);
    }

    // Promise 7.

    void promise07Give0To4() {
        for (int how = 0; how <= 4; how++) {
            LastsEvening x = full();
            x.come(1);
            int[] worths = {-10, 9, 13, 13, 2};
            due("give " + how, x.give(how), worths[how]);
            due("score", x.score(), worths[how]);
            due("given to", x.count(5), 1);
            due("it can be undone", x.count(12), 2);
        }
        for (int how : new int[] {-1, 5, Integer.MIN_VALUE, Integer.MAX_VALUE}) {
            LastsEvening x = full();
            x.come(1);
            refused("give " + how, x, THROWS, () -> x.give(how));
        }
    }

    void promise07GiveToNobody() {
        LastsEvening x = full();
        refused("no come", x, THROWS, () -> x.give(1));
        x.come(0);
        refused("none came", x, THROWS, () -> x.give(1));
        x.quarter();
        x.come(1);
        x.quarter();
        refused("came a quarter ago", x, THROWS, () -> x.give(1));
    }

    void promise07GiveTwice() {
        for (int how = 0; how <= 4; how++) {
            LastsEvening x = full();
            x.come(2);
            x.give(how);
            refused("behind " + how, x, THROWS, () -> x.give(1));
        }
    }

    void promise07GiveInTheDark() {
        LastsEvening x = full();
        x.come(1);
        x.off();
        due("who is here", x.give(1), 9);
        refused("twice", x, THROWS, () -> x.give(1));
        LastsEvening y = dark(FULL);
        refused("nobody", y, THROWS, () -> y.give(1));
    }

    void promise07GiveAtTheEnd() {
        LastsEvening x = ended(full());
        refused("over", x, THROWS, () -> x.give(0));
    }

    // Promise 8.

    void promise08QuarterTheNextOneTillTheEnd() {
        LastsEvening x = full();
        due("1", x.quarter(), 1);
        due("2", x.quarter(), 2);
        due("their number", x.quarter(), 3);
        refused("over", x, -1, x::quarter);
    }

    void promise08QuarterInTheDark() {
        LastsEvening x = dark(FULL);
        due("1", x.quarter(), 1);
        ended(x);
        refused("over", x, -1, x::quarter);
    }

    void promise08QuarterNobodyHereThen() {
        LastsEvening x = full();
        x.come(3);
        x.give(1);
        x.quarter();
        due("here, given to, come", x.count(4) + x.count(5) + x.count(14), 0);
    }

    void promise08QuarterCanBeUndone() {
        LastsEvening x = full();
        x.come(2);
        x.quarter();
        due("one call, one undo", x.count(12), 2);
    }

    // Promise 9.

    void promise09OffOnce() {
        LastsEvening x = full();
        due("off", x.off(), true);
        due("the light", x.count(6), 0);
        due("it can be undone", x.count(12), 1);
        refused("again", x, 0, () -> x.off() ? 1 : 0);
        x.quarter();
        refused("later", x, 0, () -> x.off() ? 1 : 0);
    }

    void promise09OffInTheLastQuarterAndOver() {
        LastsEvening x = ended(full());
        refused("over", x, 0, () -> x.off() ? 1 : 0);
        due("the light is on", x.count(6), 1);
        x.undo();
        due("the last quarter", x.off(), true);
    }

    void promise09OffBehindAComeAndAGive() {
        LastsEvening x = full();
        x.come(1);
        due("behind a come", x.off(), true);
        LastsEvening y = full();
        y.come(1);
        y.give(1);
        due("behind a give", y.off(), true);
    }

    // Promise 10.

    void promise10UndoNothing() {
        LastsEvening x = full();
        refused("at first", x, 0, () -> x.undo() ? 1 : 0);
        x.quarter();
        due("what was", x.undo(), true);
        refused("no more", x, 0, () -> x.undo() ? 1 : 0);
    }

    void promise10UndoIsNotUndone() {
        LastsEvening x = full();
        x.come(1);
        x.give(1);
        x.undo();
        due("one less", x.count(12), 1);
        x.undo();
        due("the beginning", x.count(14), 0);
        due("none", x.undo(), false);
    }

    void promise10UndoNotOfHouseEveningMark() {
        LastsEvening x = full();
        fed(x, "off;").evening();
        x.mark(0, false);
        due("none", x.count(12), 0);
        refused("none", x, 0, () -> x.undo() ? 1 : 0);
    }

    void promise10UndoAtTheEndAndInTheDark() {
        LastsEvening x = darkAndOver();
        due("four", x.count(12), 4);
        x.undo();
        due("the last quarter, dark", x.count(1) * 10 + x.count(6), 20);
        x.undo();
        x.undo();
        x.undo();
        due("the light", x.count(6), 1);
        due("score", x.score(), 0);
    }

    // Promise 11.

    void promise11Judged0To2() {
        throwsBeside("what", 0, 2, what -> full().judged(what));
        throwsBeside("what, no evening", 0, 2, what -> new LastsEvening().judged(what));
    }

    void promise11JudgedInTheDarkAndOver() {
        for (int what = 0; what <= 2; what++) {
            int asked = what;
            alwaysAlike(x -> fed(x, "come 1;give 3;quarter;quarter;quarter;quarter;").evening() * 1000 + x.judged(asked));
        }
    }

    void promise11JudgedNone() {
        LastsEvening x = full();
        due("all can be", x.judged(0), -1);
        due("all are best", x.judged(1), -1);
        due("score", x.judged(2), 13);
    }

    // Promise 12.

    void promise12ValueOfAQuarter() {
        throwsBeside("quarter", 0, 3, quarter -> in(FULL).value(quarter, 0, 0, false));
        throwsBeside("quarter, word", 0, 3, quarter -> in(FULL).value(quarter, 0, 0, true));
        throwsBeside("quarter", 0, 24, quarter -> in("house 24;").value(quarter, 0, 0, true));
    }

    void promise12ValueOfToffees() {
        throwsBeside("toffees", 0, 5, toffees -> in(FULL).value(1, toffees, 0, false));
        throwsBeside("toffees", 0, 120, toffees -> in("house 1;bowl 120;").value(1, toffees, 0, false));
        throwsBeside("toffees, all gone", 0, 5, toffees -> gone(FULL, 3, 3).value(1, toffees, 0, false));
    }

    void promise12ValueOfApples() {
        throwsBeside("apples", 0, 1, apples -> in(FULL).value(1, 5, apples, false));
        throwsBeside("apples", 0, 12, apples -> in("house 1;apples 12 worth 1;").value(0, 0, apples, false));
        throwsBeside("apples, all gone", 0, 1, apples -> gone(FULL, 3, 4).value(1, 5, apples, false));
    }

    void promise12ValueAtTheEnd() {
        due("what is left", in(FULL).value(3, 5, 1, true), -15000);
        due("nothing", in(FULL).value(3, 0, 0, false), 0);
    }

    void promise12ValueInTheDarkAndOver() {
        alwaysAlike(x -> x.value(0, 5, 1, false));
        due("as told", in(FULL).value(0, 5, 1, false), 29750);
    }

    void promise12ValueWithTheWordWithoutOne() {
        due("a word though none is told", in("house 1;bowl 3;").value(0, 3, 0, true), 6000);
    }

    // Promise 13.

    void promise13BestFor1To4() {
        noneBeside("here", 1, 4, here -> in(FULL).best(here));
        noneBeside("here, the word out", 1, 4, here -> gone(FULL, 1, 2).best(here));
    }

    void promise13BestDarkOver() {
        noneDarkOver(x -> x.best(1));
        noneDarkOver(x -> x.best(4));
    }

    void promise13BestInTheLastQuarter() {
        LastsEvening x = in(FULL);
        x.quarter();
        x.quarter();
        due("what is left costs: three for one", x.best(1), 3);
        due("three and two for two", x.best(2), 3);
    }

    // Promise 14.

    void promise14MayOf0To4() {
        throwsBeside("here", 0, 4, here -> in(FULL).may(here));
    }

    void promise14MayDarkOver() {
        throwsDarkOver(x -> x.may(0));
        throwsDarkOver(x -> x.may(4));
    }

    void promise14MayFromTheBeginningOfAQuarterOn() {
        LastsEvening x = in(FULL);
        long may = x.may(2);
        x.come(3);
        due("those who are here aside", x.may(2), may);
        x.quarter();
        x.quarter();
        due("the last quarter: the end's cost", x.may(0), -15000);
    }

    // Promise 15.

    void promise15StayDarkOver() {
        noneDarkOver(LastsEvening::stay);
    }

    void promise15Stay0Or1() {
        due("1", in("house 1;dark 0;").stay(), 1);
        due("0", in("house 1;without 1;calls 0 to 0 0 10 0 0;").stay(), 0);
    }

    // Promise 16.

    void promise16MeanOfAHabit() {
        throwsBeside("habit", 0, 2, habit -> in(FULL).mean(habit));
        throwsBeside("habit", 0, 3, habit -> in("house 1;habit a 1;habit b 1;habit c 1;habit d 1;").mean(habit));
        dueThrow("no habit", () -> new LastsEvening().mean(0));
    }

    void promise16MeanOverAndDark() {
        due("over", over(FULL).mean(2), -15000);
        dueThrow("dark", () -> dark(FULL).mean(0));
        dueThrow("dark and over", () -> darkAndOver().mean(0));
        due("light on again", undone(dark(FULL)).mean(0), in(FULL).mean(0));
    }

    // Promise 17.

    void promise17LeftByAHabit() {
        throwsBeside("habit", 0, 2, habit -> in(FULL).left(habit));
        dueThrow("no habit", () -> new LastsEvening().left(0));
    }

    void promise17LeftOverAndDark() {
        due("over", over(FULL).left(2), 5000);
        dueThrow("dark", () -> dark(FULL).left(0));
        dueThrow("dark and over", () -> darkAndOver().left(0));
        due("an empty bowl", in("house 1;habit a 1;").left(0), 0);
    }

    // Promise 18.

    void promise18CloseOfAHabit() {
        noneBeside("habit", 0, 2, habit -> in(FULL).close(habit));
        due("no habit", new LastsEvening().close(0), -1);
    }

    void promise18CloseOverAndDark() {
        noneDark(x -> x.close(0));
        due("over: their number", over(FULL).close(1), 3);
    }

    // Promise 19.

    void promise19Surely1To3() {
        noneBeside("each", 1, 3, each -> in(FULL).surely(each));
    }

    void promise19SurelyOverAndDark() {
        noneDark(x -> x.surely(1));
        due("over: nobody comes", over(FULL).surely(3), 1000000);
    }

    void promise19Surely0And1000000() {
        due("never", in("house 1;calls 0 to 0 0 10 0 0;").surely(1), 0);
        due("always", in("house 1;bowl 1;calls 0 to 0 0 10 0 0;").surely(1), 1000000);
    }

    // Promise 20.

    void promise20MostOf0To1000000() {
        noneBeside("millionths", 0, 1000000, millionths -> in("house 1;bowl 9;").most(millionths));
        due("none by 1", in("house 1;calls 0 to 0 0 10 0 0;").most(1), -1);
        due("three by 0", in("house 1;calls 0 to 0 0 10 0 0;").most(0), 3);
    }

    void promise20MostOverAndDark() {
        noneDark(x -> x.most(0));
        due("over", over(FULL).most(1000000), 3);
    }

    // Promise 21.

    void promise21EnoughOf1To3() {
        noneBeside("each", 1, 3, each -> in(FULL).enough(each, 0));
    }

    void promise21EnoughOf0To1000000() {
        noneBeside("millionths", 0, 1000000, millionths -> in("house 1;").enough(3, millionths));
    }

    void promise21EnoughOverAndDark() {
        noneDark(x -> x.enough(1, 1000000));
        due("over: none is needed", over(FULL).enough(3, 1000000), 0);
    }

    void promise21EnoughNotEvenWithTheBowl() {
        due("just the bowl", in("house 1;bowl 4;calls 0 to 0 0 0 10 0;").enough(3, 1), 4);
        due("not even", in("house 1;bowl 3;calls 0 to 0 0 0 10 0;").enough(3, 1), -1);
        due("by 0", in("house 1;bowl 3;calls 0 to 0 0 0 10 0;").enough(3, 0), 0);
    }

    // Promise 22.

    void promise22PeakWithApples() {
        noneBeside("apples", 0, 1, apples -> in(FULL).peak(apples));
        noneBeside("apples", 0, 12, apples -> in("house 1;apples 12 worth 1;").peak(apples));
        noneBeside("apples, all gone", 0, 1, apples -> gone(FULL, 3, 4).peak(apples));
    }

    void promise22PeakDarkOver() {
        noneDarkOver(x -> x.peak(1));
    }

    // Promise 23.

    void promise23HabitsDarkOver() {
        noneDark(LastsEvening::habits);
        due("over: all equal", over(FULL).habits(), 0);
        due("as told", in(FULL).habits(), 0);
    }

    void promise23HabitsNone() {
        due("no habit", new LastsEvening().habits(), -1);
        due("one", in("house 1;habit a 1;").habits(), 0);
    }

    // Promise 24.

    void promise24TalkDarkOver() {
        throwsDarkOver(LastsEvening::talk);
        due("as told", in(FULL).talk(), 7750);
    }

    // Promise 25.

    void promise25FenceWith0To120() {
        throwsBeside("toffees", 0, 120, toffees -> in(FULL).fence(toffees));
        throwsBeside("toffees, an empty house", 0, 120, toffees -> new LastsEvening().fence(toffees));
        throwsBeside("toffees, a full bowl", 0, 120, toffees -> in("house 24;bowl 120;left 99;").fence(toffees));
    }

    void promise25FenceDarkOver() {
        throwsDarkOver(x -> x.fence(0));
        throwsDarkOver(x -> x.fence(120));
    }

    // Promise 26.

    void promise26RainsInTheDarkAndOver() {
        alwaysAlike(LastsEvening::rains);
        due("as told", in(FULL).rains(), 500000);
    }

    // Promise 27.

    void promise27TonightDarkOver() {
        throwsDarkOver(LastsEvening::tonight);
    }

    // Promise 28.

    void promise28ReadOfAHabit() {
        noneBeside("habit", 0, 2, habit -> in(FULL).read(habit, 1, 5, 0));
        due("no habit", new LastsEvening().read(0, 0, 0, 0), -1);
    }

    void promise28ReadOfAQuarter() {
        noneBeside("quarter", 0, 3, quarter -> in(FULL).read(0, quarter, 5, 0));
        noneBeside("quarter", 0, 24, quarter -> in("house 24;habit a 1;").read(0, quarter, 0, 1));
    }

    void promise28ReadOfToffees() {
        noneBeside("toffees", 0, 120, toffees -> in(FULL).read(0, 1, toffees, 0));
        due("above the bowl it can't be", in(FULL).read(0, 1, 6, 0), 0);
        due("nor how many", in(FULL).read(0, 1, 6, 1), -1);
    }

    void promise28ReadWhat0And1() {
        noneBeside("what", 0, 1, what -> in(FULL).read(0, 1, 4, what));
        due("can't be: 0", in(FULL).read(0, 1, 5, 0), 0);
        due("can't be: 1", in(FULL).read(0, 1, 5, 1), -1);
    }

    void promise28ReadInTheDarkAndOver() {
        alwaysAlike(x -> x.read(0, 3, 3, 0));
        alwaysAlike(x -> x.read(0, 3, 2, 1));
    }

    // Promise 29.

    void promise29SheetsOf0To8() {
        noneBeside("callers", 0, 8, callers -> in(FULL).sheets(callers, 0));
    }

    void promise29SheetsTwice0ToCallers() {
        for (int callers = 0; callers <= 8; callers++) {
            int all = callers;
            noneBeside("twice of " + callers, 0, callers, twice -> in(FULL).sheets(all, twice));
        }
    }

    void promise29SheetsInTheDarkAndOver() {
        alwaysAlike(x -> x.sheets(2, 1));
        due("as told", in(FULL).sheets(2, 1), 420000);
    }

    // Promise 30.

    void promise30YearsByASeed() {
        noneBeside("seed", 0, 9999, seed -> in(FULL).years(seed, 1, 0, 0));
    }

    void promise30Years1To20Evenings() {
        noneBeside("evenings", 1, 20, evenings -> in(FULL).years(0, evenings, 0, 0));
    }

    void promise30YearsOfAHabit() {
        noneBeside("habit", 0, 2, habit -> in(FULL).years(0, 1, habit, 0));
        due("no habit", new LastsEvening().years(0, 1, 0, 0), -1);
    }

    void promise30YearsWhat0To2() {
        noneBeside("what", 0, 2, what -> in(FULL).years(0, 1, 0, what));
    }

    void promise30YearsInTheDarkAndOver() {
        for (int what = 0; what <= 2; what++) {
            int asked = what;
            alwaysAlike(x -> x.years(7, 5, 1, asked));
        }
    }

    void promise30Years0AtLeast() {
        due("less", in("house 1;bowl 1;left 1;habit a 0;").years(0, 1, 0, 0), 0);
        due("left is not less", in("house 1;bowl 1;left 1;habit a 0;").years(0, 20, 0, 1), 20);
    }

    // Promise 31.

    void promise31Mark0To3() {
        for (int mark = 0; mark <= 3; mark++) {
            LastsEvening x = full();
            due("laid " + mark, x.mark(mark, false), true);
            due("gone back to " + mark, x.mark(mark, true), true);
            for (int other = 0; other <= 3; other++) {
                due("the others are not laid", x.mark(other, true), other == mark);
            }
        }
    }

    void promise31MarkNoneSuch() {
        for (int mark : new int[] {-1, 4, Integer.MIN_VALUE, Integer.MAX_VALUE}) {
            LastsEvening x = full();
            x.quarter();
            refused("laid " + mark, x, 0, () -> x.mark(mark, false) ? 1 : 0);
            refused("back " + mark, x, 0, () -> x.mark(mark, true) ? 1 : 0);
        }
    }

    void promise31MarkNothingOnIt() {
        LastsEvening x = full();
        x.quarter();
        for (int mark = 0; mark <= 3; mark++) {
            int asked = mark;
            refused("back " + mark, x, 0, () -> x.mark(asked, true) ? 1 : 0);
        }
        due("undo stays", x.undo(), true);
    }

    void promise31MarkLaidChangesNothing() {
        LastsEvening x = full();
        x.come(2);
        x.give(1);
        refused("laid", x, 1, () -> x.mark(0, false) ? 1 : 0);
    }

    void promise31MarkInTheDarkAndOver() {
        LastsEvening x = darkAndOver();
        due("laid", x.mark(0, false), true);
        x.undo();
        due("back", x.mark(0, true) && x.count(1) == 3 && x.count(6) == 0, true);
    }

    // Promise 32.

    void promise32ScoreAtFirst() {
        due("new", new LastsEvening().score(), 0);
        due("a house", in(FULL).score(), 0);
    }

    void promise32ScoreBelow0() {
        due("left", over(FULL).score(), -15);
        due("dark and left", darkAndOver().score(), -30);
        LastsEvening x = in("house 24;bowl 120;without 99;left 99;");
        for (int quarter = 0; quarter < 24; quarter++) {
            x.come(3);
            x.quarter();
        }
        due("the least", x.score(), -99 * 72 - 99 * 120);
    }

    // Promise 33.

    void promise33Count0To14() {
        noneBeside("what", 0, 14, what -> in(FULL).count(what));
    }

    void promise33CountQuarters() {
        due("0: quarters", in(FULL).count(0), 3);
        due("1: now", in(FULL).count(1), 0);
        due("1: the end", over(FULL).count(1), 3);
    }

    void promise33CountToffeesApples() {
        LastsEvening x = in(FULL);
        due("2: full", x.count(2), 5);
        due("3: full", x.count(3), 1);
        x.come(3);
        x.give(3);
        due("2: empty", x.count(2), 0);
        x.quarter();
        x.come(3);
        x.give(4);
        due("3: empty", x.count(3), 0);
    }

    void promise33CountCallers() {
        LastsEvening x = in(FULL);
        int[] what = {4, 5, 9, 10, 14};
        int[][] counts = {{0, 0, 0, 0, 0}, {2, 0, 2, 0, 1}, {2, 1, 2, 2, 1}, {0, 0, 2, 2, 0}, {0, 0, 2, 2, 1}, {0, 0, 2, 2, 0}};
        for (int step = 0; step < counts.length; step++) {
            if (step == 1) {
                x.come(2);
            } else if (step == 2) {
                x.give(0);
            } else if (step == 4) {
                x.come(0);
            } else if (step > 0) {
                x.quarter();
            }
            for (int i = 0; i < what.length; i++) {
                due("step " + step + " count " + what[i], x.count(what[i]), counts[step][i]);
            }
        }
    }

    void promise33CountLightAndWord() {
        due("6: on", in(FULL).count(6), 1);
        due("6: off", dark(FULL).count(6), 0);
        due("6: over, on", over(FULL).count(6), 1);
        due("7: out", gone(FULL, 1, 2).count(7), 1);
        due("7: not out", gone(FULL, 1, 1).count(7), 0);
    }

    void promise33CountHabits() {
        due("8: none", new LastsEvening().count(8), 0);
        due("8: three", in(FULL).count(8), 3);
    }

    void promise33CountLines() {
        due("11: none", in(FULL).count(11), 0);
        due("11: 60", on(FULL, "off;".repeat(60)).count(11), 60);
    }

    void promise33CountUndo() {
        LastsEvening x = in("house 24;");
        for (int i = 0; i <= 20; i++) {
            due("12: after " + i, x.count(12), Math.min(16, i));
            x.quarter();
        }
    }

    void promise33CountSigns() {
        due("13: none", in(FULL).count(13), 0);
        due("13: 1,000", fed(new LastsEvening(), " ".repeat(1100)).count(13), 1000);
    }

    // The 512th call; asking changes nothing.

    void use512Calls() {
        LastsEvening x = new LastsEvening();
        for (int i = 0; i < 511; i++) {
            due("call " + (i + 1), i % 2 == 0 ? x.quarter() : x.undo() ? 1 : 0, 1);
        }
        due("call 512", x.count(1), 1);
    }

    void useTheDearestCalls() {
        String house = "house 24;bowl 120;apples 12 worth 9;worths 9 5 2;left 1;without 9;word 2;dark 9;rain 5;calls 0 to 23 1 2 3 4;"
            + "habit a 1+(toffees<60);habit b here*toffees;";
        LastsEvening x = in(house);
        long first = 0;
        for (int i = 0; i < 40; i++) {
            long sum = x.value(0, 120, 12, true) + x.tonight() + x.talk() + x.mean(0) + x.left(1) + x.close(0) + x.surely(2)
                + x.enough(1, 900000) + x.peak(12) + x.fence(120) + x.read(0, 24, 3, 0) + x.years(7, 20, 1, 1);
            first = i == 0 ? sum : first;
            due("round " + i, sum, first);
        }
    }

    void useAskingChangesNothing() {
        LastsEvening x = full();
        x.come(1);
        x.give(2);
        x.quarter();
        x.come(2);
        String before = state(x);
        for (int n = -1; n <= 4; n++) {
            int i = n;
            x.calls(i, i);
            answer(() -> x.judged(i));
            answer(() -> x.value(i, i, 0, true));
            x.best(i);
            answer(() -> x.may(i));
            x.stay();
            answer(() -> x.mean(i));
            answer(() -> x.left(i));
            x.close(i);
            x.surely(i);
            x.most(i);
            x.enough(i, i);
            x.peak(i);
            x.habits();
            x.talk();
            answer(() -> x.fence(i));
            x.rains();
            x.tonight();
            x.read(i, i, i, i);
            x.sheets(i, i);
            x.years(i, i, i, i);
            x.score();
        }
        due("state", state(x), before);
        due("undo", x.undo() && x.count(14) == 0, true);
    }
}
