/** Boundary cases of promise 30, and of what holds for all acts: the findings, and 512 calls. */
public final class ToldEdgeTest extends Edges {
    private static final int MOST_CALLS = 512;

    public static void main(String[] args) {
        runAll(ToldEdgeTest.class);
    }

    static void promise30WhatIs0To7() {
        int[] busy = {3, 7, 5, 4, 4, 14, 2, 1};
        int[] crammed = {4, 8, 7, 0, 8, 80, 0, 0};
        for (int what = 0; what <= 7; what++) {
            int w = what;
            onlyTells(0, NEW, "told(" + what + ")", x -> x.told(w));
            onlyTells(busy[what], BUSY, "told(" + what + ")", x -> x.told(w));
            onlyTells(crammed[what], CRAMMED, "told(" + what + ")", x -> x.told(w));
        }
        for (int what : outside(0, 7)) {
            refuses(BEYOND, NEW, "told(" + what + ")", x -> x.told(what));
            refuses(BEYOND, BUSY, "told(" + what + ")", x -> x.told(what));
        }
    }

    static void promise30ThisOneTooIfItDoes() {
        AbreastQuay x = new AbreastQuay();
        due("none yet", x.told(7), 0);
        due("told(7) is none itself", x.told(7), 0);
        due("another what", x.told(8), BEYOND);
        due("that one, too", x.told(7), 1);
        due("another what", x.told(-1), BEYOND);
        due("that one, too", x.told(7), 2);
    }

    static void promise30TheNumbersOfTheFindings() {
        due("BEYOND", new AbreastQuay().told(8), -1000001);
        due("FULL", Given.crammed().boat(BOAT, 1, 0, false), -1000002);
        due("KIND", Given.busy().as(0, CAT), -1000003);
        due("NONE", Given.busy().offer(6), -1000004);
        due("STATE", Given.busy().goes(6), -1000005);
        due("MISSING", Given.busy().write(3, 0, 0), -1000006);
        due("SIZE", Given.busy().sheet(0, 8, -1), -1000007);
        AbreastQuay x = new AbreastQuay();
        Given.feedText(x, "?");
        due("WRONG at 0", x.text(), -1000100);
        Given.feedText(x, "b40:07;".repeat(8) + "b");
        due("WRONG at 56", x.text(), -1000156);
        due("both count", x.told(7), 2);
    }

    static void promise30AnswersAboveTheFindingsDoNotCount() {
        AbreastQuay x = Given.row(2, 3);
        due("nowhere", x.of(2, 7) + x.of(2, 8), -2);
        due("none there", x.at(0, 5), -1);
        due("all lie right", x.fault(0), -1);
        due("a crew is away", x.aboard(1, 0), ALL_HOURS);
        due("could not", x.could(0), -1);
        due("a reason", x.may(2, 0), 0);
        due("sheet", x.sheet(0, 32, 1), 1);
        due("a low number", x.write(0, 0, -1000000) + x.write(0, 0, 0), -1000000);
        due("no number comes", x.sheet(0, 8, 1) + x.write(0, 0, 9) + x.read(0, 0), 1);
        due("findings", x.told(7), 0);
    }

    static void promise30BoatsThatLie() {
        AbreastQuay x = Given.wide(2, 8);
        due("comes", x.comes(0, 0), 0);
        due("one", x.told(2), 1);
        due("between", x.between(1, 0, 0), 1);
        due("two", x.told(2), 2);
        due("read", x.sheet(0, 8, 2) + x.write(0, 0, 2) + x.write(0, 1, 3) + x.read(0, 1), 4);
        due("four", x.told(2), 4);
        due("refused", x.comes(0, 0), STATE);
        due("four still", x.told(2), 4);
        due("goes", x.goes(0), 0);
        due("three", x.told(2), 3);
        due("lay: 1 to place 1, 2 to the other BERTH, 3 to place 0", x.lay(0b111111), 3);
        due("six", x.told(2), 6);
        due("two more: all of them", x.comes(6, 0) + x.comes(7, 1), 6);
        due("eight", x.told(2), 8);
        due("run", x.run(1), 8);
        due("none", x.told(2), 0);
    }

    static void promise30MovedForThoseThatLeftOrCameBetween() {
        AbreastQuay x = Given.row(5, 6);
        due("none came between", x.told(6), 0);
        due("between", x.between(5, 0, 0), 5);
        due("five", x.told(6), 5);
        due("goes", x.goes(5), 5);
        due("ten", x.told(6), 10);
        due("0 alone leaves by the day", x.leaves(1, 1, 23) + x.leaves(2, 1, 23) + x.leaves(3, 1, 23) + x.leaves(4, 1, 23), 4);
        due("run", x.run(1), 1);
        due("fourteen", x.told(6), 14);
        due("laid anew", x.lay(0), 4);
        due("fourteen still", x.told(6), 14);
        due("comes", x.comes(0, 0), 0);
        due("fourteen still", x.told(6), 14);
        due("refused", x.between(0, 0, 0), STATE);
        due("fourteen still", x.told(6), 14);
    }

    static void promise30EachOf512CallsIsAnswered() {
        AbreastQuay x = new AbreastQuay();
        for (int call = 1; call < MOST_CALLS; call++) {
            due("call " + call, x.told(8), BEYOND);
        }
        due("the last call", x.told(7), MOST_CALLS - 1);
    }

    static void promise30TheLongestDays() {
        AbreastQuay x = Given.row(1, 1);
        int calls = x.tide(0) == ALL_HOURS ? 4 : 0;
        int days = 0;
        while (calls < MOST_CALLS - 2) {
            due("a day", x.run(24), 0);
            calls++;
            days++;
        }
        due("LATE", x.of(0, 9), 24 * days);
        due("the last call: it lies", x.told(2), 1);
    }

    static void promise30TheMostThatCanBeMoved() {
        AbreastQuay x = Given.row(6, 6);
        int calls = 7 + 6;
        int moved = 0;
        while (calls + 2 < MOST_CALLS) {
            due("the innermost goes", x.goes(0), 5);
            due("and comes between again", x.between(0, 0, 0), 5);
            calls += 2;
            moved += 10;
        }
        due("moved ever", x.told(6), moved);
    }
}
