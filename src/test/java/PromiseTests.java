/** For each promise of the document: ordinary inputs, the edges that it names, and wrong inputs. */
public final class PromiseTests extends Suite {
    // One caller in each of two quarters.
    private static final String TWO = "house 2;bowl 4;worths 5 3 1;left 1;without 10;calls 0 to 1 0 10 0 0;";
    private static final String FULL = "house 3;bowl 5;apples 1 worth 2;worths 9 4 0;left 3;without 10;eggs 30 from 2;word 2;dark 5;"
        + "rain 5;twice 3;calls 0 to 0 0 10 0 0;calls 1 to 2 5 5 0 0;habit one 1;habit all toffees;habit eve here*0+2;";

    public static void main(String[] args) {
        PromiseTests t = new PromiseTests();
        t.aNewObject();
        t.feed();
        t.houseReads();
        t.houseFaultsOfTokens();
        t.houseFaultsOfLines();
        t.houseFaultsOfCalls();
        t.houseFaultsOfHabits();
        t.houseForgets();
        t.formulas();
        t.evening();
        t.calls();
        t.come();
        t.give();
        t.quarter();
        t.off();
        t.undo();
        t.judged();
        t.value();
        t.valueWithOff();
        t.best();
        t.may();
        t.stay();
        t.mean();
        t.left();
        t.closes();
        t.surely();
        t.most();
        t.enough();
        t.peak();
        t.habits();
        t.talk();
        t.fence();
        t.rains();
        t.tonight();
        t.read();
        t.sheets();
        t.years();
        t.mark();
        t.score();
        t.count();
        t.close();
    }

    // Promise 1.
    private void aNewObject() {
        LastsEvening x = new LastsEvening();
        due("NONE", LastsEvening.NONE, -1);
        int[] counts = {1, 0, 0, 0, 0, 0, 1, 0, 0, 0, 0, 0, 0, 0, 0};
        for (int i = 0; i < counts.length; i++) {
            due("new: count(" + i + ")", x.count(i), counts[i]);
        }
        due("new: score", x.score(), 0);
        due("new: rains", x.rains(), 0);
        due("new: calls", x.calls(0, 0), 10);
        due("new: undo", x.undo(), false);
        for (int mark = 0; mark < 4; mark++) {
            due("new: mark", x.mark(mark, true), false);
        }
        due("new: judged 0", x.judged(0), -1);
        due("new: judged 1", x.judged(1), -1);
        due("new: judged 2", x.judged(2), 0);
        due("new: worths 3 2 1", in("house 1;bowl 3;calls 0 to 0 0 10 0 0;").value(0, 3, 0, false), 6000);
        LastsEvening other = new LastsEvening();
        x.come(2);
        due("new: another object", other.count(4), 0);
    }

    // Promise 2.
    private void feed() {
        LastsEvening x = new LastsEvening();
        due("feed nothing", x.feed(0, 0, 0), 0);
        due("feed left out", x.feed(0x0920_0a7e_7f80_ff1fL, 0x0b0d_0001_1e1f_8081L, -1L), 3);
        LastsEvening y = new LastsEvening();
        due("feed of each the highest first", y.feed(0x686f757365L, 0x20L, 0x313bL), 8);
        due("feed: that is house 1;", y.house(), 0);
        due("feed: empty then", y.count(13), 0);
        LastsEvening z = new LastsEvening();
        for (int i = 1; i <= 43; i++) {
            due("feed up to 1,000", z.feed(0x2020202020202020L, 0x2020202020202020L, 0x202020202020203bL), Math.min(1000, 24 * i));
        }
        due("feed: the first 1,000 stay", z.evening(), 1 + 16 * 23);
        due("feed: empty behind a fault", z.count(13), 0);
        for (int i = 0; i < 42; i++) {
            z.feed(0x0a0a0a0a0a0a0a0aL, 0x0a0a0a0a0a0a0a0aL, 0x0a0a0a0a0a0a0a0aL);
        }
        due("feed: 1,000 blanks", z.evening(), 0);
    }

    // Promise 3.
    private void houseReads() {
        LastsEvening x = in(FULL);
        due("house: quarters", x.count(0), 3);
        due("house: bowl", x.count(2), 5);
        due("house: apples", x.count(3), 1);
        due("house: habits", x.count(8), 3);
        due("house: rain", x.rains(), 500000);
        due("house: twice", x.sheets(1, 1), 300000);
        due("house 24", houseFault("house 24;bowl 120;apples 12 worth 99;worths 99 99 99;left 99;without 99;eggs 99 from 23;word 3;"
            + "dark 99;rain 10;twice 10;calls 23 to 23 10 0 0 0;calls 0 to 22 0 0 0 10;"), 0);
        due("house 1, all 0", houseFault("house 1;bowl 0;apples 0 worth 0;worths 0 0 0;left 0;without 0;eggs 0 from 0;word 1;dark 0;"
            + "rain 0;twice 0;calls 0 to 0 2 3 4 1;"), 0);
        due("house: lines in any order", houseFault("house 3;twice 1;habit a 1;rain 1;bowl 1;calls 1 to 1 10 0 0 0;worths 1 1 1;"), 0);
        due("house: blanks where one likes", houseFault("\n house\n\n3 ;bowl 2\n;habit a(1 )<2 ; "), 0);
        due("house: no blanks", houseFault("house3;bowl2;apples1worth2;calls0to1 2 3 4 1;habit a1;"), 0);
        due("house: leading noughts", houseFault("house 0003;bowl 0120;"), 0);
        due("house: facts as names", houseFault("house 3;habit toffees toffees;habit here here;habit time 1;habit z rest;"), 0);
    }

    private void houseFaultsOfTokens() {
        due("fault: nothing", houseFault(""), 1);
        due("fault: blanks", houseFault(" \n "), 1 + 16 * 3);
        due("fault: end", houseFault("house 3"), 1 + 16 * 7);
        due("fault: end behind blanks", houseFault("house 3  "), 1 + 16 * 9);
        due("fault: end in a line", houseFault("house 3;bowl"), 1 + 16 * 12);
        due("fault: another line first", houseFault("bowl 1;house 3;"), 1);
        due("fault: house again", houseFault("house 3;house 3;"), 1 + 16 * 8);
        due("fault: a sign", houseFault("house 3!"), 1 + 16 * 7);
        due("fault: a capital", houseFault("House 3;"), 1);
        due("fault: a longer word", houseFault("house 3;abcdefghi"), 1 + 16 * 8);
        due("fault: a longer number", houseFault("house 00003;"), 1 + 16 * 6);
        due("fault: a word for a number", houseFault("house bowl;"), 1 + 16 * 6);
        due("fault: a number for ;", houseFault("house 3 3;"), 1 + 16 * 8);
        due("fault: ; alone", houseFault("house 3;;"), 1 + 16 * 8);
        due("fault: come is no line of a house", houseFault("house 3;come 1;"), 1 + 16 * 8);
        due("fault: worth is no line", houseFault("house 3;worth 1;"), 1 + 16 * 8);
        due("fault: an unknown word", houseFault("house 3;toffee 1;"), 1 + 16 * 8);
        due("fault: the first counts", houseFault("house 3;bowl 121;bowl 1;x"), 4 + 16 * 13);
    }

    private void houseFaultsOfLines() {
        due("fault: house 0", houseFault("house 0;"), 4 + 16 * 6);
        due("fault: house 25", houseFault("house 25;"), 4 + 16 * 6);
        String[] wrong = {"bowl 121", "apples 13", "left 100", "without 100", "eggs 100", "word 0", "word 4", "dark 100", "rain 11",
            "twice 11", "worths 100"};
        for (String line : wrong) {
            due("fault: " + line, houseFault("house 3;" + line + ";"), 4 + 16 * (8 + line.indexOf(' ') + 1));
        }
        due("fault: an apple's worth", houseFault("house 3;apples 1 worth 100;"), 4 + 16 * 23);
        due("fault: apples without worth", houseFault("house 3;apples 1;"), 1 + 16 * 16);
        due("fault: second worth", houseFault("house 3;worths 3 4 1;"), 4 + 16 * 17);
        due("fault: third worth", houseFault("house 3;worths 3 2 3;"), 4 + 16 * 19);
        due("fault: eggs from 3", houseFault("house 3;eggs 1 from 3;"), 4 + 16 * 20);
        due("fault: eggs to", houseFault("house 3;eggs 1 to 2;"), 1 + 16 * 15);
        String[] lines = {"bowl 1;", "apples 1 worth 1;", "worths 1 1 1;", "left 1;", "without 1;", "eggs 1 from 0;", "word 1;", "dark 1;",
            "rain 1;", "twice 1;"};
        for (String line : lines) {
            due("fault: a second " + line, houseFault("house 3;" + line + line), 3 + 16 * (8 + line.length()));
            due("fault: not beside others " + line, houseFault("house 3;" + line + (line.startsWith("bowl") ? "left 1;" : "bowl 1;")), 0);
        }
    }

    private void houseFaultsOfCalls() {
        due("fault: calls from 3", houseFault("house 3;calls 3 to 3 10 0 0 0;"), 4 + 16 * 14);
        due("fault: calls to 3", houseFault("house 3;calls 0 to 3 10 0 0 0;"), 4 + 16 * 19);
        due("fault: calls to less", houseFault("house 3;calls 2 to 1 10 0 0 0;"), 4 + 16 * 19);
        due("fault: chance 11", houseFault("house 3;calls 0 to 1 11 0 0 0;"), 4 + 16 * 21);
        due("fault: last chance 11", houseFault("house 3;calls 0 to 1 0 0 0 11;"), 4 + 16 * 27);
        due("fault: 9 together", houseFault("house 3;calls 0 to 1 5 0 0 4;"), 4 + 16 * 27);
        due("fault: 15 together", houseFault("house 3;calls 0 to 1 5 0 0 10;"), 4 + 16 * 27);
        due("fault: 12 together at the last", houseFault("house 3;calls 0 to 1 6 6 0 0;"), 4 + 16 * 27);
        due("fault: no last", houseFault("house 3;calls 0 to 1 6 6 0;"), 1 + 16 * 26);
        String one = "calls 0 to 1 10 0 0 0;";
        due("fault: a quarter that has some", houseFault("house 3;" + one + "calls 1 to 2 10 0 0 0;"), 3 + 16 * (30 + 11));
        due("fault: in the midst of a span", houseFault("house 3;calls 1 to 1 10 0 0 0;calls 0 to 2 10 0 0 0;"), 3 + 16 * (30 + 11));
        due("fault: not as told goes before", houseFault("house 3;" + one + "calls 1 to 3 10 0 0 0;"), 4 + 16 * (30 + 11));
        StringBuilder nine = new StringBuilder("house 24;");
        for (int i = 0; i < 8; i++) {
            nine.append("calls ").append(i).append(" to ").append(i).append(" 10 0 0 0;");
        }
        due("fault: eight calls", houseFault(nine.toString()), 0);
        due("fault: nine calls", houseFault(nine + "calls 0 to 0 10 0 0 0;"), 5 + 16 * nine.length());
    }

    private void houseFaultsOfHabits() {
        due("fault: a name again", houseFault("house 3;habit a 1;habit b 1;habit a 1;"), 3 + 16 * 34);
        due("fault: a longer name is another", houseFault("house 3;habit a 1;habit aa 1;habit ab 1;"), 0);
        for (String word : "house bowl apples worth worths left without eggs from word dark rain twice calls to habit come give quarter off not and or"
            .split(" ")) {
            due("fault: no name " + word, houseFault("house 3;habit " + word + " 1;"), 1 + 16 * 14);
        }
        due("fault: a number for a name", houseFault("house 3;habit 1 1;"), 1 + 16 * 14);
        String four = "house 3;habit a 1;habit b 1;habit c 1;habit d 1;";
        due("fault: four habits", houseFault(four), 0);
        due("fault: names of eight letters", houseFault("house 3;habit abcdefgh 1;habit abcdefgi 1;habit zzzzzzzz 1;"), 0);
        due("fault: such a name again", houseFault("house 3;habit abcdefgh 1;habit abcdefgh 1;"), 3 + 16 * 31);
        due("fault: a name of nine letters", houseFault("house 3;habit abcdefghi 1;"), 1 + 16 * 14);
        due("fault: five habits", houseFault(four + "habit a 1;"), 5 + 16 * four.length());
        String[] wrong = {"a b;", "a ;", "a ();", "a (1;", "a 1);", "a 1 1;", "a 1<2<3;", "a 1=2=3;", "a -1;", "a 1+;", "a and 1;", "a not;",
            "a 1 not 2;", "a bowl;", "a 12345;"};
        int[] places = {2, 2, 3, 4, 3, 4, 5, 5, 2, 4, 2, 5, 4, 2, 2};
        for (int i = 0; i < wrong.length; i++) {
            due("fault: habit " + wrong[i], houseFault("house 3;habit " + wrong[i]), 1 + 16 * (14 + places[i]));
        }
        due("fault: within 4", houseFault("house 3;habit a ((((1))));"), 0);
        due("fault: within 5", houseFault("house 3;habit a (((((1)))));"), 5 + 16 * 21);
        due("fault: not within 5 others", houseFault("house 3;habit a not not not not not not 1;"), 5 + 16 * 36);
        due("fault: a number within 5 nots", houseFault("house 3;habit a not not not not not 1;"), 5 + 16 * 36);
        due("fault: ( within 5 others", houseFault("house 3;habit a (not(not((1)))));"), 5 + 16 * 25);
        due("fault: within 5, but it can't stand there", houseFault("house 3;habit a (((((;"), 1 + 16 * 21);
        due("fault: within 5, a name", houseFault("house 3;habit a (((((bowl;"), 1 + 16 * 21);
        due("fault: beside each other", houseFault("house 3;habit a ((((1)+(2))*(3))<(4)) and not((not 1));"), 0);
    }

    private void houseForgets() {
        LastsEvening x = on(FULL, "come 1;");
        x.mark(0, false);
        x.come(1);
        fed(x, "house 3;bowl 7");
        due("house: a fault", x.house(), 1 + 16 * 14);
        due("house: all stays", x.count(2) * 100 + x.count(4) * 10 + x.count(11), 511);
        due("house: undo stays", x.count(12), 1);
        due("house: habits stay", x.count(8), 3);
        due("house: the mark stays", x.mark(0, true), true);
        x.come(1);
        x.quarter();
        fed(x, "house 3;bowl 7;").house();
        int[] counts = {3, 0, 7, 0, 0, 0, 1, 0, 0, 0, 0, 0, 0, 0, 0};
        for (int i = 0; i < counts.length; i++) {
            due("house anew: count(" + i + ")", x.count(i), counts[i]);
        }
        due("house anew: no mark", x.mark(0, true), false);
        due("house anew: no undo", x.undo(), false);
        due("house anew: rains", x.rains(), 0);
        due("house anew: score", x.score(), 0);
        due("house anew: no calls", x.calls(0, 1), 0);
        due("house anew: value", x.value(0, 7, 0, false), 0);
    }

    private void formulas() {
        String[] es = {"0-3", "9", "toffees=40", "reserve", "rest-1", "time+1", "here+1", "1+2*2-2", "(1+2)*1", "not 0", "not 7", "1 and 0",
            "3 and 2", "0 or 0", "0 or 5", "1 or 1 and 0", "1<1", "1<2", "2=2", "2=1", "not not 3", "1-1-1+2", "not 1+2",
            "9999*9999*9999*9999", "2 < 1 + 2 and here = 2", "toffees", "not(here<2)*3"};
        long[] hows = {0, 4, 1, 3, 4, 1, 3, 3, 3, 1, 0, 0, 1, 0, 1, 0, 0, 1, 1, 0, 1, 1, 2, -9, 1, 4, 3};
        int wrapped = 9999 * 9999 * 9999 * 9999;
        for (int i = 0; i < es.length; i++) {
            due("formula " + es[i], given(es[i]), hows[i] == -9 ? Math.max(0, Math.min(4, wrapped)) : hows[i]);
        }
    }

    // Promise 4.
    private void evening() {
        LastsEvening x = on(TWO, "come 1;give 2;\nquarter;off;come 0;come 4;give 0;give 4;");
        due("evening: lines", x.count(11), 8);
        due("evening: nothing moves", x.count(1) + x.count(9) + x.count(12), 0);
        due("evening: none", fed(x, "").evening(), 0);
        due("evening: no lines then", x.count(11), 0);
        due("evening fault: come 5", eveningFault("come 5;"), 4 + 16 * 5);
        due("evening fault: give 5", eveningFault("off;give 5;"), 4 + 16 * 9);
        due("evening fault: a word", eveningFault("sing;"), 1);
        due("evening fault: a line of a house", eveningFault("bowl 1;"), 1);
        due("evening fault: no number", eveningFault("come;"), 1 + 16 * 4);
        due("evening fault: a number", eveningFault("quarter 1;"), 1 + 16 * 8);
        due("evening fault: end", eveningFault("off"), 1 + 16 * 3);
        due("evening fault: sign", eveningFault("off;#"), 1 + 16 * 4);
        String sixty = "off;".repeat(60);
        due("evening: 60 lines", on(TWO, sixty).count(11), 60);
        due("evening fault: 61 lines", eveningFault(sixty + " give 9;"), 5 + 16 * 241);
        due("evening fault: another word in line 61", eveningFault(sixty + "dark;"), 1 + 16 * 240);
        due("evening fault: end behind 60", eveningFault(sixty + "  "), 0);
        fed(x, "off;quarter;").evening();
        fed(x, "off;off").evening();
        due("evening: stays behind a fault", x.count(11), 2);
        due("evening: the tape is empty behind a fault", x.count(13), 0);
    }

    // Promise 5.
    private void calls() {
        LastsEvening x = in("house 4;calls 1 to 2 1 2 3 4;word 1;");
        for (int many = 0; many < 4; many++) {
            due("calls told", x.calls(1, many) * 100 + x.calls(2, many), (many + 1) * 101);
            due("calls not told", x.calls(0, many) * 100 + x.calls(3, many), many == 0 ? 1010 : 0);
        }
        due("calls -1", x.calls(-1, 0), -1);
        due("calls 4", x.calls(4, 0), -1);
        due("calls of -1", x.calls(0, -1), -1);
        due("calls of 4", x.calls(0, 4), -1);
        due("calls of a huge one", x.calls(Integer.MAX_VALUE, Integer.MIN_VALUE), -1);
        due("calls in the dark", dark(TWO).calls(0, 1), 10);
    }

    // Promise 6.
    private void come() {
        LastsEvening x = in("house 3;bowl 9;word 2;");
        due("come -1", x.come(-1), false);
        due("come 4", x.come(4), false);
        due("come 3, whatever calls tell", x.come(3), true);
        due("come: here", x.count(4) * 10 + x.count(9), 33);
        due("come twice", x.come(1), false);
        x.give(2);
        due("come behind give", x.come(1), false);
        x.quarter();
        due("come 0 with the word", x.come(0), false);
        due("come 5 with the word", x.come(5), false);
        due("come 4 with the word", x.come(4), true);
        due("come: till now", x.count(9), 7);
        x.quarter();
        due("come none", x.come(0), true);
        due("come behind none", x.come(1), false);
        x.quarter();
        due("come at the end", x.come(1), false);
        due("come in the dark", dark(TWO).come(1), false);
        due("come: huge", in(TWO).come(Integer.MIN_VALUE), false);
    }

    // Promise 7.
    private void give() {
        LastsEvening x = in("house 6;bowl 7;apples 2 worth 4;worths 9 5 1;without 20;eggs 50 from 4;");
        dueThrow("give to nobody", () -> x.give(1));
        x.come(0);
        dueThrow("give to none", () -> x.give(1));
        due("give that can't be is not undone", x.count(12), 1);
        x.quarter();
        x.come(2);
        dueThrow("give -1", () -> x.give(-1));
        dueThrow("give 5", () -> x.give(5));
        due("give 2 to two", x.give(2), 28);
        due("give: the bowl", x.count(2), 3);
        dueThrow("give twice", () -> x.give(1));
        x.quarter();
        x.come(3);
        due("give 2 as far as the bowl goes", x.give(2), 14 + 9 - 20);
        due("give: one went without", x.count(10), 1);
        due("give: empty", x.count(2), 0);
        x.quarter();
        x.come(3);
        due("give apples as far as they go", x.give(4), 8 - 20);
        due("give: no apples", x.count(3), 0);
        x.quarter();
        x.come(2);
        due("give nothing, eggs", x.give(0), -100);
        x.quarter();
        x.come(1);
        due("give 3 of an empty bowl, eggs", x.give(3), -50);
        due("give: went without", x.count(10), 5);
        x.quarter();
        dueThrow("give at the end", () -> x.give(0));
        LastsEvening y = in("house 2;bowl 1;without 7;eggs 0 from 1;");
        y.come(1);
        y.off();
        due("give in the dark to who is here", y.give(1), 3);
        LastsEvening z = in("house 2;without 7;eggs 0 from 1;");
        z.quarter();
        z.come(2);
        due("give: eggs 0 in the place of without", z.give(0), 0);
    }

    // Promise 8.
    private void quarter() {
        LastsEvening x = in("house 2;bowl 3;left 2;without 5;word 1;");
        x.come(2);
        due("quarter: the next one", x.quarter(), 1);
        due("quarter: who was given nothing goes off without", x.score() * 100 - x.count(10), -1002);
        due("quarter: nobody here", x.count(4) + x.count(5) + x.count(14) + x.count(7), 0);
        x.come(1);
        x.give(1);
        due("quarter: the end", x.quarter(), 2);
        due("quarter: what is left costs", x.score(), -10 + 3 - 4);
        due("quarter: over", x.quarter(), -1);
        due("quarter: over, nothing moves", x.score() * 100 + x.count(12), -1100 + 5);
        LastsEvening y = in("house 3;bowl 3;apples 2 worth 0;word 2;");
        y.come(1);
        y.give(1);
        y.quarter();
        due("quarter: no word by 1", y.count(7), 0);
        y.come(1);
        y.give(4);
        y.quarter();
        due("quarter: no word by apples", y.count(7), 0);
        LastsEvening z = in("house 3;word 2;");
        z.come(1);
        z.give(3);
        due("quarter: the word isn't out yet", z.count(7), 0);
        z.quarter();
        due("quarter: the word by an empty bowl, too", z.count(7), 1);
        z.quarter();
        due("quarter: the word is out once", z.count(7), 0);
    }

    // Promise 9.
    private void off() {
        LastsEvening x = in("house 3;dark 4;");
        due("off", x.off(), true);
        due("off: the light", x.count(6), 0);
        due("off: again", x.off(), false);
        due("off: no cost yet", x.score(), 0);
        x.quarter();
        due("off: this quarter costs", x.score(), -4);
        x.quarter();
        x.quarter();
        due("off: each costs", x.score(), -12);
        LastsEvening y = in("house 3;dark 4;");
        y.come(0);
        y.off();
        y.quarter();
        due("off: none came, too: from the next on", y.score(), 0);
        y.quarter();
        due("off: the next one", y.score(), -4);
        due("off: over", over(TWO).off(), false);
        LastsEvening z = in("house 3;dark 4;without 9;");
        z.come(1);
        z.off();
        due("off: who is here stays", z.count(4), 1);
        z.quarter();
        due("off: who is here goes off without", z.score(), -9);
    }

    // Promise 10.
    private void undo() {
        LastsEvening x = in(FULL);
        due("undo nothing", x.undo(), false);
        x.come(1);
        x.give(2);
        x.quarter();
        x.off();
        due("undo: off", x.undo() && x.count(6) == 1 && x.count(1) == 1 && x.count(7) == 1, true);
        due("undo: quarter", x.undo() && x.count(1) == 0 && x.count(5) == 1 && x.count(7) == 0, true);
        due("undo: give", x.undo() && x.count(2) == 5 && x.count(5) == 0 && x.score() == 0, true);
        due("undo: rains before", x.rains(), 0);
        due("undo: come", x.undo() && x.count(14) == 0 && x.rains() == 500000, true);
        due("undo: no more", x.undo(), false);
        LastsEvening y = in("house 24;");
        for (int i = 0; i < 20; i++) {
            y.quarter();
        }
        due("undo: what can be", y.count(12), 16);
        for (int i = 0; i < 16; i++) {
            due("undo one by one", y.undo() ? y.count(1) : -5, 19 - i);
        }
        due("undo: the last 16", y.undo(), false);
        due("undo: there", y.count(1), 4);
        y.come(9);
        y.quarter();
        due("undo: what couldn't be doesn't count", y.undo() && y.count(1) == 4 && y.count(12) == 0, true);
    }

    // Promise 11.
    private void judged() {
        LastsEvening x = on(TWO, "come 1;give 1;quarter;come 1;give 3;");
        due("judged: all can be", x.judged(0), -1);
        due("judged: not best", x.judged(1), 1);
        due("judged: not over, no end", x.judged(2), 5 + 9);
        dueThrow("judged -1", () -> x.judged(-1));
        dueThrow("judged 3", () -> x.judged(3));
        due("judged: over", on(TWO, "come 1;give 1;quarter;come 1;give 2;quarter;").judged(2), 5 + 8 - 1);
        due("judged: best all along", on(TWO, "come 1;give 2;quarter;come 1;give 2;quarter;").judged(1), -1);
        due("judged: that of quarter does not count", on(TWO, "come 1;quarter;come 1;give 3;quarter;").judged(1), -1);
        due("judged: without", on(TWO, "come 1;quarter;come 1;give 3;quarter;").judged(2), -10 + 9 - 1);
        String[] cannot = {"come 1;come 1;", "come 4;", "give 1;", "come 0;give 1;", "come 1;give 2;give 2;", "off;come 1;", "off;off;",
            "quarter;quarter;quarter;", "quarter;quarter;off;", "quarter;quarter;come 1;", "quarter;quarter;give 1;", "come 0;come 0;"};
        int[] lines = {1, 0, 0, 1, 2, 1, 1, 2, 2, 2, 2, 1};
        for (int i = 0; i < cannot.length; i++) {
            due("judged: can't be " + cannot[i], on(TWO, cannot[i]).judged(0), lines[i]);
        }
        due("judged: left out", on(TWO, "come 4;come 1;give 2;give 3;come 1;quarter;").judged(2), 8);
        due("judged: a give that can't be is not judged", on(TWO, "give 0;come 1;give 2;give 0;").judged(1), -1);
        String word = "house 3;bowl 9;word 2;";
        due("judged: none with the word", on(word, "come 1;give 2;quarter;come 0;").judged(0), 3);
        due("judged: 4 with the word", on(word, "come 1;give 2;quarter;come 4;").judged(0), -1);
        due("judged: whatever calls tell", on("house 2;bowl 9;", "come 3;").judged(0), -1);
        due("judged: in the dark, best as if lit", on(TWO, "come 1;off;give 2;").judged(1), -1);
        due("judged: in the dark, not best as if lit", on(TWO, "come 1;off;give 3;").judged(1), 2);
        due("judged: dark costs", on("house 3;dark 4;", "come 0;off;quarter;quarter;").judged(2), -4);
        LastsEvening y = on(TWO, "come 1;give 2;");
        y.come(3);
        y.give(1);
        due("judged: from the beginning", y.judged(2), 8);
        due("judged: the evening by hand stays", y.count(9), 3);
    }

    // Promise 12.
    private void value() {
        LastsEvening x = in(TWO);
        due("value: two and two", x.value(0, 4, 0, false), 16000);
        due("value: of the last", x.value(1, 3, 0, false), 9000);
        due("value: none there", x.value(0, 0, 0, false), 0);
        due("value: one more by the word", x.value(1, 3, 0, true), 13000);
        due("value: the end", x.value(2, 4, 0, false), -4000);
        dueThrow("value of -1", () -> x.value(-1, 1, 0, false));
        dueThrow("value of 3", () -> x.value(3, 1, 0, false));
        dueThrow("value of -1 toffees", () -> x.value(0, -1, 0, false));
        dueThrow("value of 5 toffees", () -> x.value(0, 5, 0, false));
        dueThrow("value of -1 apples", () -> x.value(0, 1, -1, false));
        dueThrow("value of an apple", () -> x.value(0, 1, 1, false));
        due("value: cut at each", in("house 2;bowl 9;worths 1 0 0;calls 0 to 1 7 3 0 0;").value(0, 9, 0, false), 600);
        String left = "house 4;bowl 9;worths 1 0 0;calls 0 to 3 9 1 0 0;left 1;dark 99;";
        due("value: cut towards 0", in(left).value(0, 1, 0, false), -312);
        due("value: in the dark, too", dark(TWO).value(0, 4, 0, false), 16000);
        LastsEvening y = in("house 2;bowl 6;worths 1 1 0;word 2;calls 0 to 0 0 10 0 0;");
        due("value: the word brings one", y.value(0, 6, 0, false), 4000);
        LastsEvening z = in("house 1;apples 2 worth 7;without 3;dark 99;calls 0 to 0 0 0 0 10;");
        due("value: apples as far as they go", z.value(0, 0, 2, false), 11000);
        due("value: fewer apples", z.value(0, 0, 1, false), 1000);
    }

    private void valueWithOff() {
        String house = "house 3;bowl 2;without 50;dark 2;left 1;calls 0 to 2 0 0 0 10;";
        LastsEvening x = in(house);
        due("value: off at once", x.value(0, 0, 0, false), -6000);
        due("value: off, left costs", x.value(1, 2, 0, false), -6000);
        due("value: off later", in("house 3;bowl 1;without 50;dark 2;calls 0 to 2 0 10 0 0;").value(0, 1, 0, false), -1000);
        due("value: eggs", in("house 2;dark 99;without 5;eggs 9 from 1;calls 0 to 1 0 10 0 0;").value(0, 0, 0, false), -14000);
    }

    // Promise 13.
    private void best() {
        LastsEvening x = in(TWO);
        due("best for one", x.best(1), 2);
        due("best for two", x.best(2), 1);
        due("best for four", x.best(4), 1);
        due("best for none", x.best(0), -1);
        due("best for five", x.best(5), -1);
        x.come(1);
        x.give(3);
        due("best: what is in the bowl now", x.best(1), 1);
        due("best: of equal ones the first", in("house 1;").best(1), 0);
        due("best: apples", in("house 1;bowl 3;apples 1 worth 9;").best(1), 4);
        due("best: no apples for two", in("house 1;bowl 6;apples 1 worth 9;without 2;").best(2), 3);
        due("best: over", over(TWO).best(1), -1);
        due("best: dark", dark(TWO).best(1), -1);
    }

    // Promise 14.
    private void may() {
        LastsEvening x = in(TWO);
        due("may 1", x.may(1), 16000);
        due("may 0", x.may(0), 8000);
        due("may 4", x.may(4), 20000);
        dueThrow("may -1", () -> x.may(-1));
        dueThrow("may 5", () -> x.may(5));
        x.come(3);
        due("may: those who are here aside", x.may(1), 16000);
        dueThrow("may: over", () -> over(TWO).may(0));
        dueThrow("may: dark", () -> dark(TWO).may(0));
    }

    // Promise 15.
    private void stay() {
        due("stay", in(TWO).stay(), 1);
        due("stay: better off", in("house 3;without 50;dark 2;calls 0 to 2 0 0 0 10;").stay(), 0);
        due("stay: no less", in("house 3;without 1;dark 3;calls 0 to 2 0 0 0 10;").stay(), 1);
        due("stay: over", over(TWO).stay(), -1);
        due("stay: dark", dark(TWO).stay(), -1);
        LastsEvening x = in("house 3;bowl 9;without 50;dark 2;word 1;calls 0 to 0 0 10 0 0;");
        x.come(3);
        x.give(3);
        due("stay: empty now", x.stay(), 0);
        x.undo();
        due("stay: full now", x.stay(), 1);
        x.give(3);
        x.quarter();
        due("stay: the word brings one", x.stay(), 0);
    }

    // Promise 16.
    private void mean() {
        LastsEvening x = in("house 2;bowl 4;worths 5 3 1;left 1;without 10;dark 0;calls 0 to 1 0 5 5 0;habit a 1;habit b here;habit c 0-1;");
        due("mean of 1", x.mean(0), 5000 * 3 - 1000);
        due("mean of nothing", x.mean(2), -34000);
        due("mean of here", x.mean(1), (250 * (5 + 5 - 2) + 250 * (5 + 8 + 5) + 250 * (16 + -10) + 250 * (16 - 20)));
        dueThrow("mean of -1", () -> x.mean(-1));
        dueThrow("mean of 3", () -> x.mean(3));
        x.come(2);
        x.give(1);
        due("mean now", x.mean(0), mean2());
        x.quarter();
        x.quarter();
        due("mean over", x.mean(0), -2000);
        LastsEvening y = in(FULL);
        y.off();
        dueThrow("mean dark", () -> y.mean(0));
        due("mean: the light on to the end", in("house 2;without 50;calls 0 to 1 0 10 0 0;habit a 1;").mean(0), -100000);
        due("mean: above 4 is 4", in("house 1;bowl 5;apples 1 worth 8;calls 0 to 0 0 10 0 0;habit a 77;").mean(0), 8000);
    }

    /** Two toffees, one or two callers in each of two quarters, one each: the last may get nothing. */
    private long mean2() {
        return (250 * (10) + 250 * (5 + 5 - 10) + 250 * (10 - 10) + 250 * (10 - 20));
    }

    // Promise 17.
    private void left() {
        LastsEvening x = in("house 2;bowl 4;worths 5 3 1;left 1;calls 0 to 1 0 5 5 0;habit a 1;habit b 0;habit c 3;");
        due("left by 1", x.left(0), 1000);
        due("left by nothing", x.left(1), 4000);
        due("left by 3", x.left(2), 0);
        dueThrow("left by -1", () -> x.left(-1));
        dueThrow("left by 3", () -> x.left(3));
        x.come(2);
        x.give(1);
        x.quarter();
        due("left now", x.left(0), 500);
        x.quarter();
        due("left over", x.left(0), 2000);
        LastsEvening y = in(FULL);
        y.off();
        dueThrow("left dark", () -> y.left(0));
        due("left, cut", in("house 3;bowl 1;calls 0 to 2 3 7 0 0;habit a 1;").left(0), 27);
        due("left, cut at each", in("house 4;bowl 1;calls 0 to 3 3 7 0 0;habit a 1;").left(0), 8);
    }

    // Promise 18.
    private void closes() {
        String house = "house 4;bowl 2;worths 3 2 1;without 9;dark 1;calls 0 to 3 0 10 0 0;habit a 1;habit b 0;";
        LastsEvening x = in(house);
        due("close", x.close(0), 2);
        due("close at once", x.close(1), 0);
        due("close of -1", x.close(-1), -1);
        due("close of 2", x.close(2), -1);
        x.quarter();
        due("close: from now on", x.close(1), 1);
        due("close: later", x.close(0), 3);
        due("close: never", in("house 4;bowl 2;without 9;dark 99;calls 0 to 3 0 10 0 0;habit a 1;").close(0), 4);
        due("close: of equal ones the first", in("house 4;without 9;dark 9;calls 0 to 3 0 10 0 0;habit a 1;").close(0), 0);
        due("close: over", over(house).close(0), 4);
        due("close: dark", dark(house).close(0), -1);
    }

    // Promise 19.
    private void surely() {
        LastsEvening x = in(FULL);
        due("surely 1", x.surely(1), 1000000);
        due("surely 2", x.surely(2), 250000);
        due("surely 3", x.surely(3), 0);
        due("surely 0", x.surely(0), -1);
        due("surely 4", x.surely(4), -1);
        x.come(1);
        x.give(2);
        x.quarter();
        due("surely: the word as it is", x.surely(2), 250000);
        x.quarter();
        x.quarter();
        due("surely: over", x.surely(3), 1000000);
        due("surely: dark", dark(FULL).surely(1), -1);
        due("surely: who gets some gets something", in("house 1;bowl 4;calls 0 to 0 0 0 10 0;").surely(3), 1000000);
        due("surely: the last gets nothing", in("house 1;bowl 3;calls 0 to 0 0 0 10 0;").surely(3), 0);
        due("surely: no apples", in("house 1;apples 9 worth 9;calls 0 to 0 0 10 0 0;").surely(1), 0);
        due("surely: none come", in("house 1;calls 0 to 0 3 7 0 0;").surely(1), 300000);
        LastsEvening most = in("house 24;bowl 120;word 3;calls 0 to 23 0 10 0 0;");
        due("surely: 120 toffees", most.surely(2), 1000000);
        due("surely: 120 toffees, not enough for the word's", most.surely(3), 0);
        most.come(1);
        most.give(1);
        most.undo();
        due("surely: the fewest of 120", most.enough(2, 1000000), 47);
        due("surely: cut at each", in("house 8;calls 0 to 7 3 7 0 0;").surely(1), 65);
        due("surely: cut to 0", in("house 24;calls 0 to 23 3 7 0 0;").surely(1), 0);
    }

    // Promise 20.
    private void most() {
        LastsEvening x = in(FULL);
        due("most by all", x.most(1000000), 1);
        due("most by a quarter", x.most(250000), 2);
        due("most by more", x.most(250001), 1);
        due("most by 0", x.most(0), 3);
        due("most by -1", x.most(-1), -1);
        due("most by 1,000,001", x.most(1000001), -1);
        due("most: none", in("house 1;calls 0 to 0 0 10 0 0;").most(1), -1);
        due("most: over", over(FULL).most(1000000), 3);
        due("most: dark", dark(FULL).most(0), -1);
    }

    // Promise 21.
    private void enough() {
        LastsEvening x = in(FULL);
        due("enough for all", x.enough(1, 1000000), 3);
        due("enough for 3 in 4", x.enough(1, 750000), 2);
        due("enough for more", x.enough(1, 750001), 3);
        due("enough for 0", x.enough(3, 0), 0);
        due("enough: not even with the bowl", x.enough(2, 1000000), -1);
        due("enough of 0", x.enough(0, 0), -1);
        due("enough of 4", x.enough(4, 0), -1);
        due("enough for -1", x.enough(1, -1), -1);
        due("enough for 1,000,001", x.enough(1, 1000001), -1);
        x.come(1);
        x.give(3);
        due("enough: up to the bowl's", x.enough(1, 1000000), 3);
        due("enough: over", over(FULL).enough(3, 1000000), 0);
        due("enough: dark", dark(FULL).enough(1, 0), -1);
    }

    // Promise 22.
    private void peak() {
        String calls = "left 1;without 10;calls 0 to 1 0 10 0 0;";
        LastsEvening x = in("house 2;bowl 10;apples 2 worth 9;worths 5 3 1;" + calls);
        due("peak", x.peak(0), 6);
        due("peak with apples", x.peak(2), 0);
        due("peak with an apple", x.peak(1), 3);
        due("peak with -1", x.peak(-1), -1);
        due("peak with 3", x.peak(3), -1);
        due("peak: the bowl's at most", in("house 2;bowl 5;worths 5 3 1;" + calls).peak(0), 5);
        due("peak: of equal ones the fewest", in("house 2;bowl 9;worths 5 3 0;" + calls.substring(7)).peak(0), 4);
        due("peak: over", over(TWO).peak(0), -1);
        due("peak: dark", dark(TWO).peak(0), -1);
        x.come(1);
        x.give(3);
        x.quarter();
        due("peak: from now on", x.peak(0), 3);
        LastsEvening y = in("house 2;bowl 9;worths 5 3 0;word 1;left 1;" + calls.substring(7));
        y.come(1);
        y.give(1);
        y.quarter();
        due("peak: the word as it is", y.peak(0), 4);
    }

    // Promise 23.
    private void habits() {
        due("habits: the greatest", in("house 1;bowl 3;calls 0 to 0 0 10 0 0;habit a 1;habit b 3;habit c 2;").habits(), 1);
        due("habits: of equal ones the first", in("house 1;bowl 3;calls 0 to 0 0 10 0 0;habit z 0;habit a 2;habit b 2;").habits(), 1);
        due("habits: none", in(TWO).habits(), -1);
        due("habits: dark", dark(FULL).habits(), -1);
        due("habits: over", over(FULL).habits(), 0);
        LastsEvening x = in("house 2;bowl 3;calls 0 to 1 0 10 0 0;habit a 3-time*3;habit b 3*time;");
        due("habits: now", x.habits(), 0);
        x.quarter();
        due("habits: later", x.habits(), 1);
    }

    // Promise 24.
    private void talk() {
        due("talk", in(FULL).talk(), 7750);
        due("talk without word", in(TWO).talk(), 0);
        LastsEvening x = in("house 2;bowl 6;worths 4 0 0;word 1;dark 99;");
        due("talk: nobody to tell it", x.talk(), 0);
        x.come(1);
        x.give(1);
        x.quarter();
        due("talk: nor the word that is out", x.talk(), 4000);
        dueThrow("talk: over", () -> over(FULL).talk());
        dueThrow("talk: dark", () -> dark(FULL).talk());
    }

    // Promise 25.
    private void fence() {
        LastsEvening x = in("house 1;bowl 3;apples 1 worth 99;worths 5 3 1;without 10;dark 0;word 1;calls 0 to 0 0 10 0 0;");
        due("fence with none", x.fence(0), 13000 - 9000 + 10000);
        due("fence with as many", x.fence(3), 0);
        due("fence with 120", x.fence(120), 0);
        dueThrow("fence with -1", () -> x.fence(-1));
        dueThrow("fence with 121", () -> x.fence(121));
        x.come(1);
        x.give(3);
        due("fence: what is in the bowl now", x.fence(2), 10000 - 8000 + 10000);
        due("fence: each chance", in("house 1;bowl 1;worths 5 3 1;without 10;calls 0 to 0 5 5 0 0;").fence(0), 1250 - 2500 + 5000);
        due("fence: left", in("house 1;bowl 3;left 2;").fence(5), 0);
        due("fence: 240 toffees", in("house 1;bowl 120;left 2;").fence(120), 0);
        dueThrow("fence: over", () -> over(FULL).fence(0));
        dueThrow("fence: dark", () -> dark(FULL).fence(0));
    }

    // Promise 26.
    private void rains() {
        LastsEvening x = in("house 5;rain 3;bowl 9;word 1;calls 0 to 3 2 3 4 1;");
        due("rains: at first", x.rains(), 300000);
        x.come(1);
        due("rains: one came", x.rains(), 363636);
        x.give(1);
        due("rains: not by give", x.rains(), 363636);
        x.quarter();
        x.come(3);
        due("rains: without the one of the word", x.rains(), 36363L * 1000000 / (36363 + 254545));
        x.quarter();
        x.come(3);
        due("rains: it can't be a wet one", x.rains(), 0);
        x.undo();
        x.come(0);
        due("rains: none too", x.rains(), 62499L * 1000000 / (62499 + 175000));
        LastsEvening y = in("house 2;rain 3;");
        y.come(2);
        due("rains: both are 0", y.rains(), 300000);
        due("rains: rain 10", in("house 1;rain 10;").rains(), 1000000);
        due("rains: none told", in("house 1;").rains(), 0);
    }

    // Promise 27.
    private void tonight() {
        LastsEvening x = in("house 1;rain 5;bowl 2;worths 5 3 1;calls 0 to 0 0 0 10 0;");
        due("tonight", x.tonight(), 9000);
        x.come(1);
        due("tonight: wet it is", x.tonight(), 8000);
        due("tonight: value is a dry one's", x.value(0, 2, 0, false), 10000);
        LastsEvening y = in("house 2;rain 10;bowl 4;worths 5 3 1;word 1;dark 99;without 9;calls 1 to 1 10 0 0 0;");
        y.come(1);
        y.give(1);
        y.quarter();
        due("tonight: the word brings one all the same", y.tonight(), 9000);
        dueThrow("tonight: over", () -> over(FULL).tonight());
        dueThrow("tonight: dark", () -> dark(FULL).tonight());
        due("tonight: cut", in("house 1;rain 3;bowl 1;worths 1 0 0;dark 99;calls 0 to 0 3 3 4 0;").tonight(), 610);
    }

    // Promise 28.
    private void read() {
        LastsEvening x = in("house 1;bowl 3;calls 0 to 0 0 5 5 0;habit n 0;habit one 1;");
        due("read: all one", x.read(0, 1, 3, 0), 1000000);
        due("read: of equal ones the fewest", x.read(0, 1, 3, 1), 1);
        due("read: one came", x.read(1, 1, 2, 0) + 10 * x.read(1, 1, 2, 1), 500010);
        due("read: two came", x.read(1, 1, 1, 0) + 10 * x.read(1, 1, 1, 1), 500020);
        due("read: can't be", x.read(1, 1, 0, 0), 0);
        due("read: can't be, how many", x.read(1, 1, 0, 1), -1);
        due("read: at the beginning", x.read(1, 0, 3, 0) + x.read(1, 0, 3, 1), 1000000);
        due("read: above the bowl", x.read(1, 1, 120, 0) * 10 + x.read(1, 1, 120, 1), -1);
        int[][] wrong = {{-1, 0, 0, 0}, {2, 0, 0, 0}, {0, -1, 0, 0}, {0, 2, 0, 0}, {0, 0, -1, 0}, {0, 0, 121, 0}, {0, 0, 0, -1}, {0, 0, 0, 2}};
        for (int[] w : wrong) {
            due("read: others", x.read(w[0], w[1], w[2], w[3]), -1);
        }
        LastsEvening y = in("house 7;bowl 7;calls 0 to 6 9 1 0 0;habit one 1;");
        due("read: 1 in a million", y.read(0, 6, 1, 0) * 10 + y.read(0, 6, 1, 1), 16);
        due("read: cut to 0", y.read(0, 7, 0, 0), 0);
        due("read: cut to 0, how many", y.read(0, 7, 0, 1), -1);
        due("read: cut at each step", y.read(0, 7, 7, 0), 478296);
        LastsEvening z = in("house 2;bowl 3;apples 3 worth 9;word 1;calls 0 to 0 0 10 0 0;habit a 4;habit r reserve;habit w 1;");
        due("read: without apples", z.read(0, 2, 3, 0), 1000000);
        due("read: no reserve", z.read(1, 2, 3, 0), 1000000);
        due("read: the one of the word, too", z.read(2, 2, 1, 1), 2);
        z.come(1);
        z.give(3);
        z.off();
        due("read: from the beginning, the light on", z.read(2, 2, 1, 0), 1000000);
    }

    // Promise 29.
    private void sheets() {
        LastsEvening x = in("house 1;twice 3;");
        due("sheets of two", x.sheets(2, 0) + 10L * x.sheets(2, 1) + 100L * x.sheets(2, 2), 490000 + 4200000 + 9000000);
        due("sheets of nobody", x.sheets(0, 0), 1000000);
        due("sheets of eight", x.sheets(8, 4), 136136);
        due("sheets: the last cut", x.sheets(8, 8), 65);
        int[][] wrong = {{-1, 0}, {9, 0}, {2, 3}, {2, -1}, {-1, -1}};
        for (int[] w : wrong) {
            due("sheets: others", x.sheets(w[0], w[1]), -1);
        }
        due("sheets: twice 10", in("house 1;twice 10;").sheets(8, 8), 1000000);
        due("sheets: twice 10, none", in("house 1;twice 10;").sheets(8, 7), 0);
        due("sheets: twice 0", new LastsEvening().sheets(3, 0), 1000000);
        due("sheets: twice 0, one", new LastsEvening().sheets(3, 1), 0);
        due("sheets: cut to 0", in("house 1;twice 1;").sheets(8, 8), 0);
    }

    // Promise 30.
    private void years() {
        // The draws by seed 1: 8 8 3 5, then 1 7 0 9.
        LastsEvening x = in("house 4;bowl 10;left 1;calls 0 to 3 4 2 2 2;habit one 1;habit n 0;");
        due("years: a score", x.years(1, 1, 0, 0), 21 - 3);
        due("years: left", x.years(1, 1, 0, 1), 3);
        due("years: without", x.years(1, 1, 1, 2), 7);
        due("years: two evenings", x.years(1, 2, 0, 0), 18 + 15 - 5);
        due("years: two evenings, left", x.years(1, 2, 0, 1), 8);
        due("years: two evenings, without", x.years(1, 2, 1, 2), 12);
        due("years: less than 0", x.years(1, 1, 1, 0), 0);
        LastsEvening y = in("house 4;bowl 10;word 1;worths 1 0 0;calls 0 to 1 4 2 2 2;calls 3 to 3 4 2 2 2;habit one 1;");
        due("years: with the word one more; a draw without calls, too", y.years(1, 1, 0, 0), 10);
        due("years: the bowl is empty", y.years(1, 1, 0, 2), 3 + 4 + 1 + 2 - 10);
        due("years: an empty bowl", in("house 4;bowl 2;calls 0 to 3 4 2 2 2;habit one 1;").years(1, 1, 0, 2), 5);
        int[][] wrong = {{-1, 1, 0, 0}, {10000, 1, 0, 0}, {0, 0, 0, 0}, {0, 21, 0, 0}, {0, 1, -1, 0}, {0, 1, 2, 0}, {0, 1, 0, -1}, {0, 1, 0, 3}};
        for (int[] w : wrong) {
            due("years: others", x.years(w[0], w[1], w[2], w[3]), -1);
        }
        due("years: seed 9999, 20 evenings", x.years(9999, 20, 1, 1), 200);
        x.off();
        due("years: in the dark, too", x.years(1, 1, 0, 1), 3);
        due("years: apples, too", in("house 1;apples 3 worth 9;calls 0 to 0 0 0 0 10;habit a 4;").years(1, 1, 0, 0), 27);
    }

    // Promise 31.
    private void mark() {
        LastsEvening x = on(FULL, "come 1;give 1;");
        x.come(1);
        due("mark -1", x.mark(-1, false), false);
        due("mark 4", x.mark(4, false), false);
        due("mark 4 back", x.mark(4, true), false);
        due("mark: nothing on it", x.mark(3, true), false);
        due("mark laid", x.mark(3, false), true);
        x.give(2);
        x.quarter();
        x.off();
        fed(x, "off;").evening();
        due("mark: another one", x.mark(0, false), true);
        due("mark back", x.mark(3, true), true);
        due("mark: the evening", x.count(1) * 1000 + x.count(2) * 100 + x.count(4) * 10 + x.count(6), 511);
        due("mark: the lines", x.count(11), 2);
        due("mark: judged", x.judged(2), 9);
        due("mark: score, rains", x.score() + x.rains(), 0);
        due("mark: nothing can be undone", x.undo(), false);
        due("mark: the other one", x.mark(0, true) && x.count(6) == 0 && x.count(11) == 1 && x.score() == 13, true);
        due("mark: back again", x.mark(3, true) && x.count(6) == 1, true);
        x.give(0);
        due("mark: laid anew", x.mark(3, false), true);
        due("mark: undo goes on", x.undo() && x.count(5) == 0, true);
        due("mark: as laid last", x.mark(3, true) && x.count(5) == 1, true);
        due("mark 1: nothing on it still", x.mark(1, true), false);
    }

    // Promise 32.
    private void score() {
        LastsEvening x = in("house 2;bowl 4;left 3;without 8;dark 6;");
        due("score at first", x.score(), 0);
        x.come(2);
        due("score: come", x.score(), 0);
        x.give(1);
        due("score: give", x.score(), 6);
        x.quarter();
        x.come(1);
        x.off();
        due("score: off", x.score(), 6);
        x.quarter();
        due("score: the end", x.score(), 6 - 8 - 6);
        LastsEvening y = in("house 2;bowl 4;left 3;without 8;dark 6;");
        y.off();
        y.quarter();
        y.quarter();
        due("score: dark", y.score(), -24);
    }

    // Promise 33.
    private void count() {
        LastsEvening x = on(FULL, "come 1;off;");
        fed(x, "abc");
        x.come(1);
        x.give(2);
        x.quarter();
        x.come(2);
        int[] counts = {3, 1, 3, 1, 2, 0, 1, 1, 3, 3, 0, 2, 4, 24, 1};
        for (int i = 0; i < counts.length; i++) {
            due("count(" + i + ")", x.count(i), i == 13 ? 3 : counts[i]);
        }
        x.give(4);
        due("count: apples", x.count(3), 0);
        due("count: given to", x.count(4) * 10 + x.count(5), 21);
        due("count: without", x.count(10), 1);
        due("count: none came, too", none().count(14), 1);
        due("count -1", x.count(-1), -1);
        due("count 15", x.count(15), -1);
        due("count: the light", dark(FULL).count(6), 0);
        due("count: the end", over(FULL).count(1), 3);
    }

    private static LastsEvening none() {
        LastsEvening x = in(TWO);
        x.come(0);
        return x;
    }
}
