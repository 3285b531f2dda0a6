import java.util.ArrayDeque;

// The sentences of promises 1 to 18 that name a boundary, one test each.
public final class BoundaryPromises {
    private static final int[] ROUNDS = {0, 0, 0, 123, 1234, 12345, 123456};
    // The changes of six bells, written down by hand.
    private static final int[] SIX = {0, 3, 9, 12, 15, 33, 36, 39, 48, 51, 57, 60, 63};

    // Twelve changes and twenty leads, all rows different, as Bells.fullAndTrue, but so that
    // none, two or all three of the calls could be those of one more lead.
    private static Bells fullWithNoChoice() {
        return Bells.withMethod(6, 33, 0, 60, 9, 48, 60, 36, 3, 39, 51, 12, 3).withCalls(57, 36)
            .withTouch(2, 1, 2, 0, 1, 0, 0, 2, 2, 1, 2, 2, 0, 1, 0, 0, 2, 2, 2, 0);
    }

    private static Bells fullWithTwoChoices() {
        return Bells.withMethod(6, 51, 9, 33, 39, 36, 57, 39, 60, 33, 51, 36, 9).withCalls(12, 60)
            .withTouch(1, 1, 0, 1, 2, 1, 1, 1, 2, 1, 2, 0, 2, 2, 1, 1, 2, 0, 1, 0);
    }

    private static Bells fullWithThreeChoices() {
        return Bells.withMethod(6, 9, 60, 57, 60, 0, 12, 3, 9, 3, 9, 48, 0).withCalls(33, 57)
            .withTouch(0, 1, 0, 1, 0, 1, 0, 1, 0, 1, 1, 1, 0, 1, 0, 1, 0, 1, 0, 1);
    }

    // One more lead with call 0 would have row 1 again as row 252, and no other row twice.
    private static Bells fullBeforeTheFirstRow() {
        return Bells.withMethod(6, 0, 51, 9, 48, 15, 36, 3, 60, 51, 3, 36, 33).withCalls(48, 0)
            .withTouch(1, 0, 1, 1, 0, 1, 1, 0, 1, 1, 1, 0, 1, 1, 0, 1, 1, 1, 1, 1);
    }

    // All 24 rows of four bells in 24 leads, of which a touch holds no more than 20.
    private static Bells courseOnFour(int leads) {
        Bells x = Bells.singleRows();
        int[] course = {0, 1, 0, 1, 0, 1, 0, 2};
        for (int i = 0; i < leads; i++) {
            x.lead(course[i % 8]);
        }
        return x;
    }

    // ---- Promise 1 ----

    private static void dueBells(int given, int n) {
        Bells x = new Bells(given);
        Due.is("new BellRows(" + given + "): row(0)", x.row(0), ROUNDS[n]);
        Due.is("new BellRows(" + given + "): leads(n)", x.leads(n), 0);
        Due.is("new BellRows(" + given + "): leads(n + 1)", x.leads(n + 1), Due.BAD_ARG);
    }

    private static void below3Becomes3() {
        for (int given : new int[] {2, 1, 0, -1, -2, -6, -252, -65532, Due.LOWEST}) {
            dueBells(given, 3);
        }
    }

    private static void above6Becomes6() {
        for (int given : new int[] {7, 8, 9, 10, 256, 260, 65536 + 4, Due.HIGHEST}) {
            dueBells(given, 6);
        }
    }

    private static void from3To6Stays() {
        for (int given = 3; given <= 6; given++) {
            dueBells(given, given);
        }
    }

    private static void aNewMethodHasOneChange() {
        for (int given = 2; given <= 7; given++) {
            Due.is("drop", new Bells(given).drop(), Due.NONE);
            Bells x = new Bells(given).withTouch(0);
            Due.is("rows of one lead", x.last(), 1);
        }
    }

    private static void inANewMethodAllStay() {
        for (int n = 3; n <= 6; n++) {
            Bells x = new Bells(n).withTouch(0);
            Due.is("the row of one lead", x.row(1), ROUNDS[n]);
            x.change((1 << n) - 1);
            Due.is("the change", x.drop(), (1 << n) - 1);
        }
    }

    private static void inNewCallsAllStay() {
        for (int n = 3; n <= 6; n++) {
            int stay = (1 << n) - 1;
            for (int call = 1; call <= 2; call++) {
                Bells x = Bells.withMethod(n, stay - 3).withTouch(call);
                Due.is("the row with call " + call, x.row(1), ROUNDS[n]);
                Due.is("the change of call " + call, x.call(call, stay - 3), stay);
            }
        }
    }

    private static void aNewTouchHasNoLeads() {
        for (int given = 2; given <= 7; given++) {
            Due.is("last", new Bells(given).last(), 0);
            Due.is("back", new Bells(given).back(), Due.NONE);
            Due.is("turn", new Bells(given).turn(), Due.NONE);
            Due.is("lead", new Bells(given).lead(0), 1);
        }
    }

    private static void promise1() {
        Due.sentence("1: below 3 becomes 3", BoundaryPromises::below3Becomes3);
        Due.sentence("1: above 6 becomes 6", BoundaryPromises::above6Becomes6);
        Due.sentence("1: clamped into 3 to 6", BoundaryPromises::from3To6Stays);
        Due.sentence("1: one change", BoundaryPromises::aNewMethodHasOneChange);
        Due.sentence("1: all bells stay", BoundaryPromises::inANewMethodAllStay);
        Due.sentence("1: so do those of both calls", BoundaryPromises::inNewCallsAllStay);
        Due.sentence("1: The touch has no leads", BoundaryPromises::aNewTouchHasNoLeads);
    }

    // ---- Promise 2 ----

    // A method of this many changes: the first all stay, and the others as listed in SIX.
    private static Bells methodOf(int changes) {
        Bells x = new Bells(6);
        for (int i = 1; i < changes; i++) {
            x.change(SIX[i]);
        }
        return x;
    }

    private static void aChangeGoesToTheEnd() {
        Bells x = methodOf(12);
        Due.is("the first", x.drop(), 63);
        for (int i = 1; i < 11; i++) {
            Due.is("drop " + i, x.drop(), SIX[i]);
        }
        Due.is("rounds under the last", x.withTouch(0).row(1), 213456);
    }

    private static void noChangeIsBadArg() {
        for (int changes : new int[] {1, 2, 11}) {
            for (int set : new int[] {-1, 1, 2, 62, 64, 127, Due.LOWEST, Due.HIGHEST}) {
                Due.leaves("change(" + set + ") with " + changes, () -> methodOf(changes),
                    x -> x.change(set), Due.BAD_ARG);
            }
        }
    }

    private static void noChangeIsTestedFirst() {
        for (int set : new int[] {-1, 1, 2, 62, 64, 127, Due.LOWEST, Due.HIGHEST}) {
            Due.leaves("change(" + set + ") with 12", () -> methodOf(12), x -> x.change(set),
                Due.BAD_ARG);
        }
    }

    private static void twelveIsFull() {
        Due.is("with 11", methodOf(11).change(0), 12);
        for (int set : SIX) {
            Due.leaves("with 12", () -> methodOf(12), x -> x.change(set), Due.FULL);
        }
    }

    private static void fullAgainAndAgain() {
        Bells x = methodOf(12);
        for (int i = 0; i < 20; i++) {
            Due.is("with 12", x.change(0), Due.FULL);
        }
        Due.is("drop", x.drop(), 63);
        Due.is("with 11", x.change(0), 12);
        Due.is("with 12 again", x.change(0), Due.FULL);
    }

    private static void howManyChangesItHas() {
        Bells x = new Bells(3);
        for (int count = 2; count <= 12; count++) {
            Due.is("change", x.change(1), count);
        }
    }

    private static void promise2() {
        Due.sentence("2: at the end of the method", BoundaryPromises::aChangeGoesToTheEnd);
        Due.sentence("2: no change answers BAD_ARG", BoundaryPromises::noChangeIsBadArg);
        Due.sentence("2: Tested in this order", BoundaryPromises::noChangeIsTestedFirst);
        Due.sentence("2: the method has 12 answers FULL", BoundaryPromises::twelveIsFull);
        Due.sentence("2: FULL, and room after a drop", BoundaryPromises::fullAgainAndAgain);
        Due.sentence("2: Otherwise how many it has", BoundaryPromises::howManyChangesItHas);
    }

    // ---- Promise 3 ----

    private static void dropTakesTheFirst() {
        Bells x = Bells.withMethod(4, 0, 9, 3).withTouch(0);
        x.drop();
        Due.is("the rows", x.rowsOf(), "[1234, 1324, 1342]");
    }

    private static void dropOfTheOnlyOne() {
        Due.leaves("drop", Bells::singleRows, x -> x.drop(), Due.NONE);
        Due.leaves("drop with leads", () -> courseOnFour(20), x -> x.drop(), Due.NONE);
        Due.leaves("drop of a new object", () -> new Bells(6), x -> x.drop(), Due.NONE);
    }

    private static void dropOfTwo() {
        Bells x = Bells.huntOnFour();
        Due.is("drop of two", x.drop(), 0);
        Due.is("drop of one", x.drop(), Due.NONE);
        Due.is("how many then", x.change(15), 2);
    }

    private static void dropAnswersTheChange() {
        for (int set : SIX) {
            Bells x = Bells.withMethod(6, set, 63);
            Due.is("drop", x.drop(), set);
        }
    }

    private static void dropOfTwelve() {
        Bells x = methodOf(12);
        Due.is("drop", x.drop(), 63);
        Due.is("how many then", x.change(0), 12);
    }

    // A full method goes on and on: each new one stands at the end, behind eleven others.
    private static void dropAndChangeRoundAndRound() {
        Bells x = methodOf(12).withTouch(0);
        for (int i = 12; i < 112; i++) {
            Due.is("drop " + i, x.drop(), i == 12 ? 63 : SIX[(i - 12) % 13]);
            Due.is("change " + i, x.change(SIX[i % 13]), 12);
            Due.is("last " + i, x.last(), 12);
        }
        Bells same = new Bells(6);
        same.change(SIX[100 % 13]);
        same.drop();
        for (int i = 101; i < 112; i++) {
            same.change(SIX[i % 13]);
        }
        Due.is("the rows", x.rowsOf(), same.withTouch(0).rowsOf());
    }

    private static void promise3() {
        Due.sentence("3: the method's first change", BoundaryPromises::dropTakesTheFirst);
        Due.sentence("3: NONE if it has only one", BoundaryPromises::dropOfTheOnlyOne);
        Due.sentence("3: it has two", BoundaryPromises::dropOfTwo);
        Due.sentence("3: Otherwise that change", BoundaryPromises::dropAnswersTheChange);
        Due.sentence("3: it has twelve", BoundaryPromises::dropOfTwelve);
        Due.sentence("3: round and round", BoundaryPromises::dropAndChangeRoundAndRound);
    }

    // ---- Promise 4 ----

    private static void callNot1Or2() {
        Due.leaves("call(0, 0)", Bells::fullAndTrue, x -> x.call(0, 0), Due.BAD_ARG);
        for (int call : Due.outside(1, 2)) {
            Due.leaves("call(" + call + ", 0)", Bells::fullAndTrue, x -> x.call(call, 0),
                Due.BAD_ARG);
        }
    }

    private static void callWithNoChange() {
        for (int set : new int[] {-1, 1, 2, 62, 64, 127, Due.LOWEST, Due.HIGHEST}) {
            Due.leaves("call(1, " + set + ")", Bells::fullAndTrue, x -> x.call(1, set),
                Due.BAD_ARG);
            Due.leaves("call(2, " + set + ")", Bells::fullAndTrue, x -> x.call(2, set),
                Due.BAD_ARG);
        }
    }

    private static void callWithBothWrong() {
        Due.leaves("call(0, 1)", Bells::fullAndTrue, x -> x.call(0, 1), Due.BAD_ARG);
        Due.leaves("call(3, -1)", Bells::fullAndTrue, x -> x.call(3, -1), Due.BAD_ARG);
    }

    private static void callAnswersTheOneBefore() {
        for (int call = 1; call <= 2; call++) {
            Bells x = new Bells(6);
            int before = 63;
            for (int set : SIX) {
                Due.is("call(" + call + ", " + set + ")", x.call(call, set), before);
                Due.is("the same once more", x.call(call, set), set);
                before = set;
            }
            Due.is("the other call", x.call(3 - call, 0), 63);
        }
    }

    private static void callCountsForLeadsThereAre() {
        Bells x = Bells.singleRows().withTouch(1, 2);
        x.call(1, 12);
        Due.is("the rows", x.rowsOf(), "[1234, 2134, 2143]");
        x.call(2, 0);
        Due.is("the rows", x.rowsOf(), "[1234, 2134, 1243]");
    }

    private static void promise4() {
        Due.sentence("4: BAD_ARG if call is not 1 or 2", BoundaryPromises::callNot1Or2);
        Due.sentence("4: or the set is no change", BoundaryPromises::callWithNoChange);
        Due.sentence("4: both", BoundaryPromises::callWithBothWrong);
        Due.sentence("4: Otherwise the one before", BoundaryPromises::callAnswersTheOneBefore);
        Due.sentence("4: becomes this one", BoundaryPromises::callCountsForLeadsThereAre);
    }

    // ---- Promise 5 ----

    private static void leadWithNoCall() {
        for (int leads : new int[] {0, 1, 19}) {
            for (int call : Due.outside(0, 2)) {
                Due.leaves("lead(" + call + ") with " + leads, () -> courseOnFour(leads),
                    x -> x.lead(call), Due.BAD_ARG);
            }
        }
    }

    private static void leadsCallIsTestedFirst() {
        for (int call : Due.outside(0, 2)) {
            Due.leaves("lead(" + call + ") with 20", () -> courseOnFour(20), x -> x.lead(call),
                Due.BAD_ARG);
        }
    }

    private static void twentyLeadsAreFull() {
        for (int call = 0; call <= 2; call++) {
            int one = call;
            Due.is("with 19", courseOnFour(19).lead(one), 20);
            Due.leaves("with 20", () -> courseOnFour(20), x -> x.lead(one), Due.FULL);
        }
    }

    private static void roomForALeadAfterBack() {
        Bells x = courseOnFour(20);
        x.turn();
        Due.is("turn makes no room", x.lead(0), Due.FULL);
        Due.is("back", x.back(), 0);
        Due.is("with 19", x.lead(2), 20);
        Due.is("with 20 again", x.lead(2), Due.FULL);
        Due.is("the 20th", x.back(), 2);
    }

    private static void howManyLeadsItHas() {
        Bells x = Bells.huntOnThree();
        for (int count = 1; count <= 20; count++) {
            Due.is("lead", x.lead(count % 3), count);
        }
    }

    private static void promise5() {
        Due.sentence("5: call not 0 to 2 answers BAD_ARG", BoundaryPromises::leadWithNoCall);
        Due.sentence("5: Tested in this order", BoundaryPromises::leadsCallIsTestedFirst);
        Due.sentence("5: there are 20 leads answers FULL", BoundaryPromises::twentyLeadsAreFull);
        Due.sentence("5: FULL, and room after back", BoundaryPromises::roomForALeadAfterBack);
        Due.sentence("5: Otherwise how many leads it has", BoundaryPromises::howManyLeadsItHas);
    }

    // ---- Promise 6 ----

    private static void backOfNone() {
        Due.leaves("back of a new object", () -> new Bells(3), x -> x.back(), Due.NONE);
        Due.leaves("back", () -> methodOf(12), x -> x.back(), Due.NONE);
    }

    private static void backOfTheOnlyOne() {
        for (int call = 0; call <= 2; call++) {
            Bells x = Bells.singleRows().withTouch(call);
            Due.is("back of one", x.back(), call);
            Due.is("last then", x.last(), 0);
            Due.is("back of none", x.back(), Due.NONE);
            Due.is("lead then", x.lead(call), 1);
        }
    }

    private static void backTakesTheLast() {
        Bells x = Bells.singleRows().withTouch(0, 1, 2);
        Due.is("back", x.back(), 2);
        Due.is("the rows", x.rowsOf(), "[1234, 2143, 2413]");
    }

    private static void backOfTwenty() {
        Bells x = Bells.singleRows();
        for (int i = 1; i <= 20; i++) {
            x.lead(i % 3);
        }
        for (int i = 20; i >= 1; i--) {
            Due.is("back of " + i, x.back(), i % 3);
            Due.is("last then", x.last(), i - 1);
        }
        Due.is("back of none", x.back(), Due.NONE);
    }

    private static void promise6() {
        Due.sentence("6: NONE if there is none", BoundaryPromises::backOfNone);
        Due.sentence("6: there is only one", BoundaryPromises::backOfTheOnlyOne);
        Due.sentence("6: the last lead", BoundaryPromises::backTakesTheLast);
        Due.sentence("6: Otherwise its call, for twenty", BoundaryPromises::backOfTwenty);
    }

    // ---- Promise 7 ----

    private static void turnOfNone() {
        Due.leaves("turn of a new object", () -> new Bells(3), x -> x.turn(), Due.NONE);
        Due.leaves("turn", () -> methodOf(12), x -> x.turn(), Due.NONE);
    }

    private static void turnOfTheOnlyOne() {
        for (int call = 0; call <= 2; call++) {
            int one = call;
            Due.leaves("turn of one", () -> Bells.singleRows().withTouch(one), x -> x.turn(), one);
        }
    }

    private static void turnOfTwo() {
        Bells x = Bells.singleRows().withTouch(2, 1);
        Due.is("turn", x.turn(), 2);
        Due.is("the rows", x.rowsOf(), "[1234, 1324, 1342]");
        Due.is("turn again", x.turn(), 1);
        Due.is("the rows again", x.rowsOf(), "[1234, 1243, 1423]");
    }

    private static void turnOfTwenty() {
        Bells x = Bells.singleRows().withTouch(2).withPlainLeads(18).withTouch(1);
        Due.is("turn", x.turn(), 2);
        Due.is("last", x.last(), 20);
        Due.is("the last lead", x.back(), 2);
        Due.is("the one before", x.back(), 1);
        Due.is("the one before that", x.back(), 0);
        Due.is("how many were left", x.lead(0), 18);
    }

    private static void turnAllTheWayRound() {
        for (int leads : new int[] {1, 2, 3, 19, 20}) {
            Bells x = courseOnFour(leads);
            for (int i = 0; i < leads; i++) {
                x.turn();
            }
            Due.is("after " + leads, x.takenApart(), courseOnFour(leads).takenApart());
        }
    }

    // With turns, the lead that back takes and the one that comes in its place wander through.
    private static void turnRoundAndRound() {
        ArrayDeque<Integer> touch = new ArrayDeque<>();
        Bells x = Bells.singleRows();
        for (int i = 0; i < 20; i++) {
            x.lead(i % 3);
            touch.addLast(i % 3);
        }
        for (int i = 0; i < 110; i++) {
            int first = touch.removeFirst();
            touch.addLast(first);
            Due.is("turn " + i, x.turn(), first);
            if (i % 3 == 0) {
                Due.is("back " + i, x.back(), touch.removeLast());
                Due.is("turn of nineteen " + i, x.turn(), touch.peekFirst());
                touch.addLast(touch.removeFirst());
                touch.addLast(i / 3 % 3);
                Due.is("lead " + i, x.lead(i / 3 % 3), 20);
            }
        }
        while (!touch.isEmpty()) {
            Due.is("back", x.back(), touch.removeLast());
        }
        Due.is("back of none", x.back(), Due.NONE);
    }

    private static void promise7() {
        Due.sentence("7: NONE if there is none", BoundaryPromises::turnOfNone);
        Due.sentence("7: there is only one", BoundaryPromises::turnOfTheOnlyOne);
        Due.sentence("7: first becomes last of two", BoundaryPromises::turnOfTwo);
        Due.sentence("7: first becomes last of twenty", BoundaryPromises::turnOfTwenty);
        Due.sentence("7: all the way round", BoundaryPromises::turnAllTheWayRound);
        Due.sentence("7: round and round", BoundaryPromises::turnRoundAndRound);
    }

    // ---- Promise 8 ----

    private static void lastWithNoLeads() {
        Due.is("one change", new Bells(3).last(), 0);
        Due.is("twelve changes", methodOf(12).last(), 0);
        Bells x = methodOf(12).withTouch(0);
        x.back();
        Due.is("after back", x.last(), 0);
    }

    private static void lastLeastAndMost() {
        Due.is("one lead of one", new Bells(3).withTouch(0).last(), 1);
        Due.is("one lead of twelve", methodOf(12).withTouch(0).last(), 12);
        Due.is("twenty leads of one", courseOnFour(20).last(), 20);
        Due.is("twenty leads of twelve", Bells.fullAndTrue().last(), 240);
    }

    private static void lastAfterDropAndChange() {
        Bells x = Bells.fullAndTrue();
        x.drop();
        Due.is("twenty leads of eleven", x.last(), 220);
        x.change(0);
        Due.is("twenty leads of twelve", x.last(), 240);
        x.back();
        Due.is("nineteen leads of twelve", x.last(), 228);
        x.turn();
        Due.is("nineteen after turn", x.last(), 228);
    }

    private static void promise8() {
        Due.sentence("8: 0 if there are no leads", BoundaryPromises::lastWithNoLeads);
        Due.sentence("8: the number of the last row", BoundaryPromises::lastLeastAndMost);
        Due.sentence("8: after drop, change, back", BoundaryPromises::lastAfterDropAndChange);
    }

    // ---- Promise 9 ----

    private static void rowWithNoLeads() {
        Due.is("row 0", methodOf(12).row(0), 123456);
        for (int k : Due.outside(0, 0)) {
            Due.leaves("row(" + k + ")", () -> methodOf(12), x -> x.row(k), Due.NONE);
        }
    }

    private static void rowAfterTheLast() {
        Bells x = Bells.huntOnThree().withTouch(0, 0);
        Due.is("row 4, the last", x.row(4), 231);
        for (int k : Due.outside(0, 4)) {
            Due.is("row(" + k + ")", x.row(k), Due.NONE);
        }
    }

    private static void rowAfterThe240th() {
        Bells x = Bells.fullWithFirstRowLast();
        Due.is("row 1", x.row(1), 132456);
        Due.is("row 239", x.row(239), 132546);
        Due.is("row 240", x.row(240), 132456);
        for (int k : Due.outside(0, 240)) {
            Due.is("row(" + k + ")", x.row(k), Due.NONE);
        }
    }

    // What was rung before, or for choices, is no row of the touch.
    private static void rowsThatAreGone() {
        Bells x = Bells.huntOnFour().withTouch(0, 0);
        Due.is("row 4", x.row(4), 4321);
        x.back();
        Due.is("row 4 after back", x.row(4), Due.NONE);
        x.choices();
        Due.is("row 3 after choices", x.row(3), Due.NONE);
        x.drop();
        Due.is("row 2 after drop", x.row(2), Due.NONE);
        Due.is("row 1 after drop", x.row(1), 1324);
    }

    private static void promise9() {
        Due.sentence("9: NONE, no leads", BoundaryPromises::rowWithNoLeads);
        Due.sentence("9: NONE if there is no row k", BoundaryPromises::rowAfterTheLast);
        Due.sentence("9: NONE, 240 rows", BoundaryPromises::rowAfterThe240th);
        Due.sentence("9: NONE, rows that are gone", BoundaryPromises::rowsThatAreGone);
    }

    // ---- Promise 10 ----

    private static void placeWithNoRow() {
        for (int bell = 1; bell <= 6; bell++) {
            Due.is("no leads, row 1", methodOf(12).place(bell, 1), Due.NONE);
            Bells x = Bells.fullAndTrue();
            for (int k : Due.outside(0, 240)) {
                Due.is("place(" + bell + ", " + k + ")", x.place(bell, k), Due.NONE);
            }
        }
    }

    private static void placeWithNoBell() {
        for (int n = 3; n <= 6; n++) {
            Bells x = new Bells(n).withTouch(0, 0);
            for (int bell : Due.outside(1, n)) {
                Due.is("in row 0", x.place(bell, 0), Due.BAD_ARG);
                Due.is("in row 2", x.place(bell, 2), Due.BAD_ARG);
            }
        }
    }

    private static void placesBellIsTestedFirst() {
        for (int bell : Due.outside(1, 4)) {
            Bells x = Bells.huntOnFour().withTouch(0);
            for (int k : Due.outside(0, 2)) {
                Due.is("place(" + bell + ", " + k + ")", x.place(bell, k), Due.BAD_ARG);
            }
        }
    }

    private static void placeInTheFirstAndTheLastRow() {
        Bells x = Bells.fullAndTrue();
        int[] last = {2, 4, 1, 3, 0, 5};
        for (int bell = 1; bell <= 6; bell++) {
            Due.is("in row 0", x.place(bell, 0), bell - 1);
            Due.is("in row 240", x.place(bell, 240), last[bell - 1]);
        }
    }

    private static void promise10() {
        Due.sentence("10: NONE if there is no row k", BoundaryPromises::placeWithNoRow);
        Due.sentence("10: BAD_ARG, no such bell", BoundaryPromises::placeWithNoBell);
        Due.sentence("10: tested first", BoundaryPromises::placesBellIsTestedFirst);
        Due.sentence("10: the place", BoundaryPromises::placeInTheFirstAndTheLastRow);
    }

    // ---- Promise 11 ----

    private static void trueWithNoLeads() {
        Due.is("a new object", new Bells(3).isTrue(), 1);
        Due.is("a method that is false alone", Bells.withMethod(4, 15, 15).isTrue(), 1);
    }

    private static void trueWithAllRowsOnce() {
        Due.is("one row", new Bells(6).withTouch(2).isTrue(), 1);
        Due.is("all six rows of three bells", Bells.huntOnThree().withPlainLeads(3).isTrue(), 1);
        Due.is("240 rows", Bells.fullAndTrue().isTrue(), 1);
    }

    private static void falseForFirstAndLast() {
        Due.is("rows 1 and 7", Bells.withMethod(3, 1).withCalls(4, 4)
            .withTouch(0, 1, 0, 1, 0, 1, 0).isTrue(), 0);
        Due.is("rows 1 and 240", Bells.fullWithFirstRowLast().isTrue(), 0);
    }

    private static void falseForNeighbours() {
        Due.is("the first two", Bells.withMethod(4, 0, 15, 9).withTouch(0).isTrue(), 0);
        Due.is("the last two", Bells.withMethod(4, 0, 9, 15).withTouch(0).isTrue(), 0);
        Due.is("of two leads", Bells.withMethod(4, 15, 0, 9).withTouch(0, 0).isTrue(), 0);
        Due.is("rounds and rounds", new Bells(3).withTouch(0, 1).isTrue(), 0);
    }

    private static void promise11() {
        Due.sentence("11: 1 with no leads", BoundaryPromises::trueWithNoLeads);
        Due.sentence("11: 1 if the touch is true", BoundaryPromises::trueWithAllRowsOnce);
        Due.sentence("11: else 0, first and last", BoundaryPromises::falseForFirstAndLast);
        Due.sentence("11: else 0, neighbours", BoundaryPromises::falseForNeighbours);
    }

    // ---- Promise 12 ----

    private static void differentWithNoLeads() {
        Due.is("a new object", new Bells(3).different(), 0);
        Due.is("twelve changes", methodOf(12).different(), 0);
    }

    private static void differentLeast() {
        Due.is("one row", new Bells(6).withTouch(0).different(), 1);
        Due.is("240 times rounds", Bells.fullAndStill().different(), 1);
    }

    private static void differentMost() {
        Due.is("240 rows", Bells.fullAndTrue().different(), 240);
        Due.is("row 240 is row 1", Bells.fullWithFirstRowLast().different(), 239);
    }

    private static void differentOfThreeBells() {
        int[] sets = {1, 4, 1, 4, 1, 4, 1, 4, 1, 4, 1, 4};
        Due.is("240 rows of three bells",
            Bells.withMethod(3, sets).withPlainLeads(20).different(), 6);
    }

    private static void promise12() {
        Due.sentence("12: none with no leads", BoundaryPromises::differentWithNoLeads);
        Due.sentence("12: only one", BoundaryPromises::differentLeast);
        Due.sentence("12: the most", BoundaryPromises::differentMost);
        Due.sentence("12: all that there are", BoundaryPromises::differentOfThreeBells);
    }

    // ---- Promise 13 ----

    private static void noPairsWithNoneOrOne() {
        Due.is("no leads", new Bells(3).falsePairs(), 0);
        Due.is("one lead", new Bells(3).withTouch(0).falsePairs(), 0);
        Due.is("one that is false alone", Bells.withMethod(3, 7, 7).withTouch(0).falsePairs(), 0);
    }

    private static void onePairOfTwo() {
        Due.is("one row", new Bells(3).withTouch(0, 1).falsePairs(), 1);
        Due.is("many rows", Bells.withMethod(3, 7, 7, 7).withTouch(0, 2).falsePairs(), 1);
    }

    private static void pairOfFirstAndLast() {
        Due.is("leads 1 and 7", Bells.withMethod(3, 1).withCalls(4, 4)
            .withTouch(0, 1, 0, 1, 0, 1, 0).falsePairs(), 1);
        Due.is("leads 1 and 20", Bells.fullWithFirstRowLast().falsePairs(), 1);
    }

    private static void noPairs() {
        Due.is("240 different rows", Bells.fullAndTrue().falsePairs(), 0);
        Due.is("twenty leads of one", courseOnFour(20).falsePairs(), 0);
    }

    private static void allPairs() {
        Due.is("twenty leads of twelve", Bells.fullAndStill().falsePairs(), 190);
        Due.is("twenty leads of one", new Bells(3).withPlainLeads(20).falsePairs(), 190);
    }

    private static void promise13() {
        Due.sentence("13: with none or one", BoundaryPromises::noPairsWithNoneOrOne);
        Due.sentence("13: with two", BoundaryPromises::onePairOfTwo);
        Due.sentence("13: the first and the last", BoundaryPromises::pairOfFirstAndLast);
        Due.sentence("13: none of twenty", BoundaryPromises::noPairs);
        Due.sentence("13: all of twenty", BoundaryPromises::allPairs);
    }

    // ---- Promise 14 ----

    private static void falseAloneWithNoCall() {
        for (int call : Due.outside(0, 2)) {
            Due.leaves("falseAlone(" + call + ")", Bells::huntOnFour, x -> x.falseAlone(call),
                Due.BAD_ARG);
        }
    }

    private static void falseAloneOfOneChange() {
        for (int call = 0; call <= 2; call++) {
            Due.is("one row, call " + call, new Bells(3).falseAlone(call), 0);
        }
    }

    private static void falseAloneOfTwoChanges() {
        Bells x = Bells.withMethod(3, 1, 4).withCalls(7, 1);
        Due.is("132 312", x.falseAlone(0), 0);
        Due.is("132 132", x.falseAlone(1), 1);
        Due.is("132 123", x.falseAlone(2), 0);
    }

    // Of the twelve rows the first and the last are the same; with the calls they are not.
    private static void falseAloneOfTwelveChanges() {
        Bells x = Bells.withMethod(6, 12, 33, 57, 60, 48, 36, 15, 0, 33, 39, 33, 51);
        x.withCalls(0, 51);
        Due.is("call 0", x.falseAlone(0), 1);
        Due.is("call 1", x.falseAlone(1), 0);
        Due.is("call 2", x.falseAlone(2), 1);
    }

    private static void falseAloneBesideTheTouch() {
        Bells x = Bells.fullWithFirstRowLast();
        for (int call = 0; call <= 2; call++) {
            Due.is("the touch is false, call " + call, x.falseAlone(call), 0);
        }
        Bells y = Bells.withMethod(4, 0, 9).withCalls(15, 9).withTouch(0);
        Due.is("the touch is true", y.isTrue(), 1);
        Due.is("and has no lead with call 1", y.falseAlone(1), 1);
    }

    private static void promise14() {
        Due.sentence("14: BAD_ARG if call is not 0 to 2", BoundaryPromises::falseAloneWithNoCall);
        Due.sentence("14: only one row", BoundaryPromises::falseAloneOfOneChange);
        Due.sentence("14: two rows", BoundaryPromises::falseAloneOfTwoChanges);
        Due.sentence("14: the first and the last", BoundaryPromises::falseAloneOfTwelveChanges);
        Due.sentence("14: a lead with this call", BoundaryPromises::falseAloneBesideTheTouch);
    }

    // ---- Promise 15 ----

    private static void orderWithNoCall() {
        for (int call : Due.outside(0, 2)) {
            Due.leaves("order(" + call + ")", Bells::huntOnFour, x -> x.order(call), Due.BAD_ARG);
        }
    }

    private static void orderOne() {
        for (int n = 3; n <= 6; n++) {
            for (int call = 0; call <= 2; call++) {
                Due.is("all stay", new Bells(n).order(call), 1);
            }
        }
        Due.is("out and back", Bells.withMethod(4, 0, 0).order(0), 1);
    }

    private static void orderOfThreeAndFourBells() {
        Due.is("two of three", Bells.withMethod(3, 1).order(0), 2);
        Due.is("three of three", Bells.withMethod(3, 1, 4).order(0), 3);
        Due.is("two of four", Bells.withMethod(4, 0).order(0), 2);
        Due.is("three of four", Bells.withMethod(4, 3, 9).order(0), 3);
        Due.is("four of four", Bells.withMethod(4, 0, 9).order(0), 4);
    }

    private static void orderOfFiveAndSixBells() {
        int[][] five = {{31}, {1}, {1, 4}, {1, 19}, {1, 16}, {1, 28}};
        int[][] six = {{63}, {0}, {3, 9}, {0, 9}, {3, 33}, {0, 33}};
        for (int i = 0; i < 6; i++) {
            Due.is("of five", Bells.withMethod(5, five[i]).order(0), i + 1);
            Due.is("of six", Bells.withMethod(6, six[i]).order(0), i + 1);
        }
    }

    // Rounds comes in each lead, but as the last row only after two.
    private static void orderLooksAtTheLastRow() {
        Due.is("2143 1234 2143", Bells.withMethod(4, 0, 0, 0).order(0), 2);
        Due.is("1234 2143", Bells.withMethod(4, 15, 0).order(0), 2);
    }

    private static void orderStartsFromRounds() {
        for (int leads = 0; leads <= 20; leads++) {
            Bells x = Bells.huntOnFour().withCalls(3, 15).withPlainLeads(leads);
            Due.is("call 0 beside " + leads, x.order(0), 4);
            Due.is("call 1 beside " + leads, x.order(1), 2);
            Due.is("call 2 beside " + leads, x.order(2), 2);
        }
    }

    private static void orderOfTwelveChanges() {
        Bells x = Bells.fullWithFirstRowLast();
        Due.is("call 0", x.order(0), 3);
        Due.is("call 1", x.order(1), 5);
        Due.is("call 2", x.order(2), 6);
    }

    private static void promise15() {
        Due.sentence("15: BAD_ARG if call is not 0 to 2", BoundaryPromises::orderWithNoCall);
        Due.sentence("15: only one", BoundaryPromises::orderOne);
        Due.sentence("15: up to four", BoundaryPromises::orderOfThreeAndFourBells);
        Due.sentence("15: up to six, the most", BoundaryPromises::orderOfFiveAndSixBells);
        Due.sentence("15: as the last row", BoundaryPromises::orderLooksAtTheLastRow);
        Due.sentence("15: from rounds on", BoundaryPromises::orderStartsFromRounds);
        Due.sentence("15: twelve changes", BoundaryPromises::orderOfTwelveChanges);
    }

    // ---- Promise 16 ----

    private static void homeWithNoLeads() {
        Due.is("a new object", new Bells(3).home(), 1);
        Due.is("a method that leads away", Bells.huntOnFour().home(), 1);
        Bells x = Bells.huntOnFour().withTouch(0);
        x.back();
        Due.is("after back", x.home(), 1);
    }

    private static void homeLooksAtTheLastRow() {
        Due.is("1234 2143", Bells.withMethod(4, 15, 0).withTouch(0).home(), 0);
        Due.is("2143 1234", Bells.withMethod(4, 0, 0).withTouch(0).home(), 1);
        Due.is("lead 3 of 4", Bells.huntOnFour().withPlainLeads(3).home(), 0);
        Due.is("lead 4 of 4", Bells.huntOnFour().withPlainLeads(4).home(), 1);
        Due.is("lead 5 of 4", Bells.huntOnFour().withPlainLeads(5).home(), 0);
    }

    private static void homeInRow240() {
        Due.is("rounds", Bells.fullAndStill().home(), 1);
        Due.is("not rounds", Bells.fullAndTrue().home(), 0);
    }

    private static void promise16() {
        Due.sentence("16: 1 with no leads", BoundaryPromises::homeWithNoLeads);
        Due.sentence("16: if the last row is rounds", BoundaryPromises::homeLooksAtTheLastRow);
        Due.sentence("16: the 240th", BoundaryPromises::homeInRow240);
    }

    // ---- Promise 17 ----

    private static void leadsWithNoBell() {
        for (int n = 3; n <= 6; n++) {
            int bells = n;
            for (int bell : Due.outside(1, n)) {
                Due.leaves("leads(" + bell + ") of " + n, () -> new Bells(bells).withTouch(0),
                    x -> x.leads(bell), Due.BAD_ARG);
            }
        }
    }

    private static void leadsWithNoLeads() {
        for (int bell = 1; bell <= 6; bell++) {
            Due.is("leads(" + bell + ")", methodOf(12).leads(bell), 0);
        }
    }

    private static void leadsInTheFirstAndTheLastRow() {
        Bells x = Bells.huntOnFour().withTouch(0, 0);
        Due.is("1 in 2143 2413 4231 4321", x.leads(1), 0);
        Due.is("2 in 2143 2413 4231 4321", x.leads(2), 2);
        Due.is("3 in 2143 2413 4231 4321", x.leads(3), 0);
        Due.is("4 in 2143 2413 4231 4321", x.leads(4), 2);
    }

    private static void leadsInAllRows() {
        Due.is("1, always", Bells.fullAndStill().leads(1), 240);
        for (int bell = 2; bell <= 6; bell++) {
            Due.is(bell + ", never", Bells.fullAndStill().leads(bell), 0);
        }
        int[] counts = {44, 42, 36, 35, 41, 42};
        for (int bell = 1; bell <= 6; bell++) {
            Due.is(bell + " in 240 rows", Bells.fullAndTrue().leads(bell), counts[bell - 1]);
        }
    }

    private static void promise17() {
        Due.sentence("17: BAD_ARG if there is no such bell", BoundaryPromises::leadsWithNoBell);
        Due.sentence("17: none with no leads", BoundaryPromises::leadsWithNoLeads);
        Due.sentence("17: first and last row", BoundaryPromises::leadsInTheFirstAndTheLastRow);
        Due.sentence("17: all rows", BoundaryPromises::leadsInAllRows);
    }

    // ---- Promise 18 ----

    private static void choicesWithNoLeads() {
        Due.is("three", Bells.singleRows().choices(), 3);
        Due.is("two", Bells.huntOnThree().withCalls(7, 1).choices(), 2);
        Due.is("one", Bells.huntOnThree().choices(), 1);
        Due.is("none", Bells.withMethod(3, 7, 7).choices(), 0);
    }

    private static void choicesAreCallsAndNotChanges() {
        Due.is("three calls of one change", Bells.withMethod(4, 0).withCalls(0, 0).choices(), 3);
    }

    private static void choicesOfAFalseTouch() {
        Bells x = new Bells(4).withTouch(0, 0).withCalls(9, 3);
        Due.is("rounds and rounds", x.isTrue(), 0);
        Due.is("none", x.choices(), 0);
        Due.is("none of twenty", Bells.fullWithFirstRowLast().choices(), 0);
    }

    private static void choicesWithNineteenLeads() {
        Due.is("leads of one", courseOnFour(19).choices(), 1);
        Bells x = Bells.fullAndTrue();
        x.back();
        Due.is("leads of twelve", x.choices(), 2);
    }

    private static void choicesWithTwentyLeads() {
        Due.leaves("none", BoundaryPromises::fullWithNoChoice, x -> x.choices(), 0);
        Due.leaves("one", Bells::fullAndTrue, x -> x.choices(), 1);
        Due.leaves("two", BoundaryPromises::fullWithTwoChoices, x -> x.choices(), 2);
        Due.leaves("three", BoundaryPromises::fullWithThreeChoices, x -> x.choices(), 3);
        Due.leaves("one of leads of one", () -> courseOnFour(20), x -> x.choices(), 1);
    }

    private static void choicesWithTheFirstRowAs252nd() {
        Due.is("call 2 alone", fullBeforeTheFirstRow().choices(), 1);
    }

    private static void choicesOfAllRows() {
        Due.is("all six rows have come", Bells.huntOnThree().withPlainLeads(3).choices(), 0);
    }

    private static void promise18() {
        Due.sentence("18: no leads", BoundaryPromises::choicesWithNoLeads);
        Due.sentence("18: How many calls", BoundaryPromises::choicesAreCallsAndNotChanges);
        Due.sentence("18: so that the touch were true", BoundaryPromises::choicesOfAFalseTouch);
        Due.sentence("18: 19 leads", BoundaryPromises::choicesWithNineteenLeads);
        Due.sentence("18: also if there are 20 leads", BoundaryPromises::choicesWithTwentyLeads);
        Due.sentence("18: first and last", BoundaryPromises::choicesWithTheFirstRowAs252nd);
        Due.sentence("18: no row is left", BoundaryPromises::choicesOfAllRows);
    }

    public static void main(String[] args) {
        promise1();
        promise2();
        promise3();
        promise4();
        promise5();
        promise6();
        promise7();
        promise8();
        promise9();
        promise10();
        promise11();
        promise12();
        promise13();
        promise14();
        promise15();
        promise16();
        promise17();
        promise18();
        Due.end();
    }
}
