// The sentences of "What it is", "Terms" and the constants that name a boundary, one test each.
public final class BoundaryTerms {
    private static final int[] ROUNDS = {0, 0, 0, 123, 1234, 12345, 123456};
    private static final int[] BACKWARDS = {0, 0, 0, 321, 4321, 54321, 654321};

    private static void turnsUpToThe512thCall() {
        Bells x = Bells.withMethod(6, 0, 33, 0, 33, 0, 33, 0, 33, 0, 33, 0, 33).withTouch(1)
            .withPlainLeads(19);
        int turns = 511 - x.callsMade();
        for (int i = 0; i < turns; i++) {
            Due.is("turn " + i, x.turn(), i % 20 == 0 ? 1 : 0);
        }
        Due.is("the 512th call, last()", x.last(), 240);
        Due.is("calls made", x.callsMade(), 512);
    }

    private static void refusedCallsUpToThe512thCall() {
        Bells x = new Bells(3);
        for (int i = 0; i < 511; i++) {
            Due.is("back " + i, x.back(), Due.NONE);
        }
        Due.is("the 512th call, lead(2)", x.lead(2), 1);
        Due.is("calls made", x.callsMade(), 512);
    }

    private static void changesUpToThe512thCall() {
        Bells x = new Bells(4);
        for (int i = 0; i < 255; i++) {
            Due.is("change " + i, x.change(i % 2 == 0 ? 0 : 9), 2);
            Due.is("drop " + i, x.drop(), i == 0 ? 15 : i % 2 == 0 ? 9 : 0);
        }
        Due.is("the 511th call, lead(0)", x.lead(0), 1);
        Due.is("the 512th call, row(1)", x.row(1), 2143);
        Due.is("calls made", x.callsMade(), 512);
    }

    private static void leadsUpToThe512thCall() {
        Bells x = new Bells(5);
        for (int i = 0; i < 256; i++) {
            Due.is("lead " + i, x.lead(i % 3), 1);
            Due.is("back " + i, x.back(), i % 3);
        }
        Due.is("calls made", x.callsMade(), 512);
    }

    private static void bellsAreOneToN() {
        for (int n = 3; n <= 6; n++) {
            Bells x = new Bells(n);
            for (int bell = 1; bell <= n; bell++) {
                Due.is("n " + n + " place(" + bell + ", 0)", x.place(bell, 0), bell - 1);
                Due.is("n " + n + " leads(" + bell + ")", x.leads(bell), 0);
            }
            for (int bell : Due.outside(1, n)) {
                Due.is("n " + n + " place(" + bell + ", 0)", x.place(bell, 0), Due.BAD_ARG);
                Due.is("n " + n + " leads(" + bell + ")", x.leads(bell), Due.BAD_ARG);
            }
        }
    }

    // Hunting: after n changes all bells stand the other way round.
    private static Bells hunt(int n) {
        int first = n % 2 == 0 ? 0 : 1 << (n - 1);
        int second = n % 2 == 0 ? 1 | 1 << (n - 1) : 1;
        return Bells.withMethod(n, first, second).withPlainLeads(3);
    }

    private static void placesAreZeroToNMinusOne() {
        for (int n = 3; n <= 6; n++) {
            Bells x = hunt(n);
            Due.is("n " + n + ": 1 in rounds", x.place(1, 0), 0);
            Due.is("n " + n + ": n in rounds", x.place(n, 0), n - 1);
            Due.is("n " + n + ": 1 in row n", x.place(1, n), n - 1);
            Due.is("n " + n + ": n in row n", x.place(n, n), 0);
        }
    }

    private static void codesLeastAndGreatest() {
        for (int n = 3; n <= 6; n++) {
            Due.is("n " + n + ": the greatest code", hunt(n).row(n), BACKWARDS[n]);
            Due.is("n " + n + ": the least code", hunt(n).row(0), ROUNDS[n]);
        }
    }

    private static void dueUnder(int n, int set, int code) {
        Bells x = Bells.withMethod(n, set);
        x.lead(0);
        Due.is("rounds under " + set, x.row(1), code);
    }

    private static void allStay() {
        dueUnder(3, 7, 123);
        dueUnder(4, 15, 1234);
        dueUnder(5, 31, 12345);
        dueUnder(6, 63, 123456);
    }

    private static void noneStays() {
        dueUnder(4, 0, 2143);
        dueUnder(6, 0, 214365);
    }

    private static void theLowestPairAlone() {
        dueUnder(3, 4, 213);
        dueUnder(4, 12, 2134);
        dueUnder(5, 28, 21345);
        dueUnder(6, 60, 213456);
    }

    private static void theHighestPairAlone() {
        dueUnder(3, 1, 132);
        dueUnder(4, 3, 1243);
        dueUnder(5, 7, 12354);
        dueUnder(6, 15, 123465);
    }

    private static void fourInARowAreTwoPairs() {
        dueUnder(5, 1, 13254);
        dueUnder(5, 16, 21435);
        dueUnder(6, 3, 124365);
        dueUnder(6, 33, 132546);
        dueUnder(6, 48, 214356);
    }

    private static void pairsWithOneThatStaysBetween() {
        dueUnder(5, 4, 21354);
        dueUnder(6, 36, 213546);
        dueUnder(6, 9, 132465);
        dueUnder(6, 12, 213465);
    }

    // The same sets are changes for the method and for a call.
    private static void dueChange(int n, int set, boolean good) {
        String what = "n " + n + ": ";
        int stay = (1 << n) - 1;
        Due.is(what + "change(" + set + ")", new Bells(n).change(set), good ? 2 : Due.BAD_ARG);
        for (int call = 1; call <= 2; call++) {
            int got = new Bells(n).call(call, set);
            Due.is(what + "call(" + call + ", " + set + ")", got, good ? stay : Due.BAD_ARG);
        }
    }

    private static void dueNoChanges(int n, int... sets) {
        for (int set : sets) {
            dueChange(n, set, false);
        }
    }

    private static void theSetOfAllPlaces() {
        for (int n = 3; n <= 6; n++) {
            dueChange(n, (1 << n) - 1, true);
        }
    }

    private static void theEmptySet() {
        dueChange(3, 0, false);
        dueChange(4, 0, true);
        dueChange(5, 0, false);
        dueChange(6, 0, true);
    }

    private static void onePlaceAlone() {
        for (int n = 3; n <= 6; n++) {
            for (int p = 0; p < n; p++) {
                dueChange(n, (1 << n) - 1 - (1 << p), false);
            }
        }
    }

    private static void threeOrFivePlacesInARow() {
        dueNoChanges(4, 8, 1);
        dueNoChanges(5, 24, 17, 3);
        dueNoChanges(6, 56, 49, 35, 7, 32, 1);
    }

    private static void twoPlacesThatAreNoNeighbours() {
        dueNoChanges(3, 2);
        dueNoChanges(4, 10, 6, 5);
        dueNoChanges(5, 26, 22, 14, 21, 13, 11);
        dueNoChanges(6, 58, 54, 46, 30, 53, 45, 29, 43, 27, 23);
    }

    private static void aPairAndOneMore() {
        dueNoChanges(4, 4, 2);
        dueNoChanges(5, 20, 12, 18, 9, 6, 5);
        dueNoChanges(6, 52, 44, 28, 50, 41, 25, 38, 37, 22, 19, 14, 13, 11, 26);
    }

    private static void placesThatAreNotThere() {
        for (int n = 3; n <= 6; n++) {
            int stay = (1 << n) - 1;
            for (int p = n; p < 32; p++) {
                dueNoChanges(n, 1 << p, (1 << p) + stay, (1 << p) + stay - 3);
            }
        }
    }

    private static void setsBelowZero() {
        for (int n = 3; n <= 6; n++) {
            dueNoChanges(n, -1, -2, -4, -(1 << n), -256 + 12, Due.LOWEST, Due.LOWEST + 15);
        }
    }

    private static void howManySetsAreChanges() {
        int[] many = {0, 0, 0, 3, 5, 8, 13};
        for (int n = 3; n <= 6; n++) {
            int count = 0;
            for (int set = -1000; set <= 1000; set++) {
                if (new Bells(n).change(set) == 2) {
                    count++;
                }
            }
            Due.is("n " + n + ": changes from -1000 to 1000", count, many[n]);
        }
    }

    private static void aMethodOfOneChange() {
        Bells x = Bells.withMethod(3, 4).withTouch(0, 0, 0);
        Due.is("the rows", x.rowsOf(), "[123, 213, 123, 213]");
    }

    private static void aMethodOfTwelveChanges() {
        Bells x = Bells.withMethod(4, 0, 9, 0, 9, 0, 9, 0, 3, 0, 9, 0, 12).withTouch(0);
        Due.is("the rows", x.rowsOf(), "[1234, 2143, 2413, 4231, 4321, 3412, 3142, 1324, 1342, "
            + "3124, 3214, 2341, 3241]");
    }

    private static void aCallInAMethodOfOneChange() {
        Bells x = Bells.singleRows().withTouch(1, 2, 0);
        Due.is("the rows", x.rowsOf(), "[1234, 1324, 1342, 3124]");
    }

    private static void aCallInAMethodOfTwelveChanges() {
        Bells x = Bells.withMethod(4, 0, 9, 0, 9, 0, 9, 0, 3, 0, 9, 0, 12).withCalls(3, 9);
        x.withTouch(1, 2);
        Due.is("row 11", x.row(11), 2341);
        Due.is("row 12, with call 1", x.row(12), 2314);
        Due.is("row 13", x.row(13), 3241);
        Due.is("row 23", x.row(23), 3142);
        Due.is("row 24, with call 2", x.row(24), 3412);
    }

    private static void theLastChangeIsAnotherOneAfterChange() {
        Bells x = Bells.singleRows().withTouch(1);
        Due.is("with one change", x.rowsOf(), "[1234, 1324]");
        x.change(12);
        Due.is("with two", x.rowsOf(), "[1234, 2143, 2413]");
    }

    private static void theLastChangeIsTheOnlyOneAfterDrop() {
        Bells x = Bells.huntOnFour().withCalls(3, 12).withTouch(1, 2);
        Due.is("with two changes", x.rowsOf(), "[1234, 2143, 2134, 1243, 2143]");
        x.drop();
        Due.is("with one", x.rowsOf(), "[1234, 1243, 2143]");
    }

    private static void callZeroHasTheMethodsLastChange() {
        Bells x = Bells.huntOnFour().withCalls(3, 12).withTouch(0);
        Due.is("the rows", x.rowsOf(), "[1234, 2143, 2413]");
    }

    private static void atMostTwentyLeads() {
        Bells x = Bells.singleRows().withPlainLeads(19);
        Due.is("the 20th lead", x.lead(1), 20);
        Due.is("the 21st lead", x.lead(1), Due.FULL);
        Due.is("the row of the 20th", x.row(20), 2413);
        Due.is("a row of a 21st", x.row(21), Due.NONE);
    }

    private static void rowZeroIsRounds() {
        for (int n = 3; n <= 6; n++) {
            Due.is("n " + n + ", no leads", new Bells(n).row(0), ROUNDS[n]);
        }
        Due.is("20 leads of 12", Bells.fullAndTrue().row(0), 123456);
    }

    private static void rowsUpToAllChangesOfAllLeads() {
        Bells x = Bells.fullAndTrue();
        Due.is("row 1", x.row(1), 124365);
        Due.is("row 239", x.row(239), 534126);
        Due.is("row 240", x.row(240), 531426);
        Due.is("row 241", x.row(241), Due.NONE);
        Due.is("row 252", x.row(252), Due.NONE);
    }

    private static void aLeadGoesOnFromTheOneBefore() {
        Bells x = Bells.huntOnFour().withTouch(0, 0);
        Due.is("the last row of the first lead", x.row(2), 2413);
        Due.is("the first row of the second lead", x.row(3), 4231);
    }

    // Lead 1 has 1234 2143 2413, and lead 2 has 2413 4231 4321.
    private static void theLastRowOfALeadBelongsToIt() {
        Bells x = Bells.withMethod(4, 15, 0, 9).withTouch(0, 0);
        Due.is("falsePairs", x.falsePairs(), 1);
        Due.is("falseAlone", x.falseAlone(0), 0);
    }

    // Lead 1 has 2143 2413 2413, and lead 2 has 4231 4321 4321.
    private static void theFirstRowOfALeadBelongsToIt() {
        Bells x = Bells.withMethod(4, 0, 9, 15).withTouch(0, 0);
        Due.is("falsePairs", x.falsePairs(), 0);
        Due.is("falseAlone of 1324 1324", Bells.withMethod(4, 9, 15).falseAlone(0), 1);
    }

    private static void rowZeroIsOfNoLeadForIsTrue() {
        Due.is("out and back", Bells.withMethod(4, 0, 0).withTouch(0).isTrue(), 1);
        Due.is("one lead of rounds", new Bells(3).withTouch(0).isTrue(), 1);
    }

    private static void rowZeroIsOfNoLeadForDifferent() {
        Due.is("no leads", new Bells(3).different(), 0);
        Due.is("2143 alone", Bells.singleRows().withTouch(0).different(), 1);
    }

    private static void rowZeroIsOfNoLeadForFalsePairs() {
        Due.is("2143 and 1234", Bells.singleRows().withTouch(0, 0).falsePairs(), 0);
    }

    private static void rowZeroIsOfNoLeadForFalseAlone() {
        Due.is("out and back", Bells.withMethod(4, 0, 0).falseAlone(0), 0);
    }

    private static void rowZeroIsOfNoLeadForLeads() {
        Due.is("no leads", new Bells(3).leads(1), 0);
        Due.is("2143 alone", Bells.singleRows().withTouch(0).leads(1), 0);
    }

    private static void rowZeroIsOfNoLeadForChoices() {
        Due.is("all three back to rounds", new Bells(3).choices(), 3);
        Due.is("2143, then 1234 among others", Bells.singleRows().withTouch(0).choices(), 3);
    }

    private static void neverThrows(Bells x, int first, int second) {
        x.change(first);
        x.call(first, second);
        x.lead(first);
        x.row(first);
        x.place(first, second);
        x.falseAlone(first);
        x.order(first);
        x.leads(first);
        x.drop();
        x.back();
        x.turn();
        x.last();
        x.isTrue();
        x.different();
        x.falsePairs();
        x.home();
        x.choices();
    }

    private static void noCallThrows() {
        int[] odd = {Due.LOWEST, -65536, -256, -33, -32, -4, -3, -2, -1, 0, 1, 2, 3, 4, 6, 7, 12,
            13, 20, 21, 31, 32, 63, 64, 240, 241, 252, 253, 256, 65536, Due.HIGHEST};
        for (int first : odd) {
            for (int second : odd) {
                neverThrows(new Bells(first), first, second);
                neverThrows(Bells.huntOnFour().withTouch(0, 1), first, second);
                neverThrows(Bells.fullAndTrue(), first, second);
                neverThrows(Bells.fullAndStill(), first, second);
            }
        }
    }

    private static Bells some() {
        return Bells.withMethod(5, 16, 1, 7).withCalls(4, 25).withTouch(0, 1, 2, 0);
    }

    private static void refusedForItsArgumentChangesNothing() {
        for (int set : new int[] {-1, 0, 2, 30, 32, Due.LOWEST, Due.HIGHEST}) {
            Due.leaves("change(" + set + ")", BoundaryTerms::some, x -> x.change(set), Due.BAD_ARG);
            for (int call = 1; call <= 2; call++) {
                int one = call;
                String what = "call(" + one + ", " + set + ")";
                Due.leaves(what, BoundaryTerms::some, x -> x.call(one, set), Due.BAD_ARG);
            }
        }
        for (int call : Due.outside(0, 2)) {
            Due.leaves("lead", BoundaryTerms::some, x -> x.lead(call), Due.BAD_ARG);
            Due.leaves("call", BoundaryTerms::some, x -> x.call(call, 31), Due.BAD_ARG);
            Due.leaves("falseAlone", BoundaryTerms::some, x -> x.falseAlone(call), Due.BAD_ARG);
            Due.leaves("order", BoundaryTerms::some, x -> x.order(call), Due.BAD_ARG);
        }
        Due.leaves("call(0, 31)", BoundaryTerms::some, x -> x.call(0, 31), Due.BAD_ARG);
        for (int bell : Due.outside(1, 5)) {
            Due.leaves("place", BoundaryTerms::some, x -> x.place(bell, 1), Due.BAD_ARG);
            Due.leaves("leads", BoundaryTerms::some, x -> x.leads(bell), Due.BAD_ARG);
        }
    }

    private static void refusedForALimitChangesNothing() {
        Due.leaves("the 13th change", Bells::fullAndTrue, x -> x.change(0), Due.FULL);
        for (int call = 0; call <= 2; call++) {
            int one = call;
            Due.leaves("the 21st lead", Bells::fullAndTrue, x -> x.lead(one), Due.FULL);
        }
    }

    private static void refusedForNoSuchThingChangesNothing() {
        Due.leaves("drop", () -> Bells.singleRows().withTouch(0, 1, 2), x -> x.drop(), Due.NONE);
        Due.leaves("back", Bells::huntOnFour, x -> x.back(), Due.NONE);
        Due.leaves("turn", Bells::huntOnFour, x -> x.turn(), Due.NONE);
        for (int k : Due.outside(0, 12)) {
            Due.leaves("row(" + k + ")", BoundaryTerms::some, x -> x.row(k), Due.NONE);
            Due.leaves("place(1, " + k + ")", BoundaryTerms::some, x -> x.place(1, k), Due.NONE);
        }
    }

    private static void theConstants() {
        Due.is("BAD_ARG", BellRows.BAD_ARG, -1);
        Due.is("FULL", BellRows.FULL, -2);
        Due.is("NONE", BellRows.NONE, -4);
    }

    private static void whatItIs() {
        String words = "An object is used for at most 512 calls after it has been made: ";
        Due.sentence(words + "turns", BoundaryTerms::turnsUpToThe512thCall);
        Due.sentence(words + "refused ones", BoundaryTerms::refusedCallsUpToThe512thCall);
        Due.sentence(words + "changes", BoundaryTerms::changesUpToThe512thCall);
        Due.sentence(words + "leads", BoundaryTerms::leadsUpToThe512thCall);
    }

    private static void bellsAndRows() {
        Due.sentence("There are n BELLS (3 to 6), 1 to n", BoundaryTerms::bellsAreOneToN);
        Due.sentence("the PLACES 0 to n - 1", BoundaryTerms::placesAreZeroToNMinusOne);
        Due.sentence("its CODE is the decimal number", BoundaryTerms::codesLeastAndGreatest);
    }

    private static void changes() {
        String does = "the others are exchanged in pairs of neighbours: ";
        Due.sentence(does + "all stay", BoundaryTerms::allStay);
        Due.sentence(does + "none stays", BoundaryTerms::noneStays);
        Due.sentence(does + "the lowest two", BoundaryTerms::theLowestPairAlone);
        Due.sentence(does + "the highest two", BoundaryTerms::theHighestPairAlone);
        Due.sentence(does + "from the lowest place on", BoundaryTerms::fourInARowAreTwoPairs);
        Due.sentence(does + "apart", BoundaryTerms::pairsWithOneThatStaysBetween);
        String fits = "A set is a change if that can be done: ";
        Due.sentence(fits + "all places", BoundaryTerms::theSetOfAllPlaces);
        Due.sentence(fits + "the empty set", BoundaryTerms::theEmptySet);
        Due.sentence(fits + "one alone", BoundaryTerms::onePlaceAlone);
        Due.sentence(fits + "three or five", BoundaryTerms::threeOrFivePlacesInARow);
        Due.sentence(fits + "no neighbours", BoundaryTerms::twoPlacesThatAreNoNeighbours);
        Due.sentence(fits + "a pair and one more", BoundaryTerms::aPairAndOneMore);
        Due.sentence(fits + "a place that is not there", BoundaryTerms::placesThatAreNotThere);
        Due.sentence(fits + "below zero", BoundaryTerms::setsBelowZero);
        Due.sentence(fits + "no others", BoundaryTerms::howManySetsAreChanges);
    }

    private static void methodsAndCalls() {
        String method = "A METHOD is a row of 1 to 12 changes: ";
        Due.sentence(method + "1", BoundaryTerms::aMethodOfOneChange);
        Due.sentence(method + "12", BoundaryTerms::aMethodOfTwelveChanges);
        String call = "another change, that of the call, stands in place of the last one: ";
        Due.sentence(call + "of 1", BoundaryTerms::aCallInAMethodOfOneChange);
        Due.sentence(call + "of 12", BoundaryTerms::aCallInAMethodOfTwelveChanges);
        Due.sentence(call + "after change", BoundaryTerms::theLastChangeIsAnotherOneAfterChange);
        Due.sentence(call + "after drop", BoundaryTerms::theLastChangeIsTheOnlyOneAfterDrop);
        Due.sentence(call + "not with call 0", BoundaryTerms::callZeroHasTheMethodsLastChange);
    }

    private static void touches() {
        Due.sentence("A TOUCH is a row of at most 20 leads", BoundaryTerms::atMostTwentyLeads);
        Due.sentence("row 0 is rounds", BoundaryTerms::rowZeroIsRounds);
        Due.sentence("row k, for k from 1 to the number of all changes of all leads",
            BoundaryTerms::rowsUpToAllChangesOfAllLeads);
        Due.sentence("is what comes of row k - 1", BoundaryTerms::aLeadGoesOnFromTheOneBefore);
        String belongs = "Row k BELONGS to the lead whose change makes it: ";
        Due.sentence(belongs + "the last one", BoundaryTerms::theLastRowOfALeadBelongsToIt);
        Due.sentence(belongs + "the first one", BoundaryTerms::theFirstRowOfALeadBelongsToIt);
        String zero = "row 0 belongs to no lead: ";
        Due.sentence(zero + "isTrue", BoundaryTerms::rowZeroIsOfNoLeadForIsTrue);
        Due.sentence(zero + "different", BoundaryTerms::rowZeroIsOfNoLeadForDifferent);
        Due.sentence(zero + "falsePairs", BoundaryTerms::rowZeroIsOfNoLeadForFalsePairs);
        Due.sentence(zero + "falseAlone", BoundaryTerms::rowZeroIsOfNoLeadForFalseAlone);
        Due.sentence(zero + "leads", BoundaryTerms::rowZeroIsOfNoLeadForLeads);
        Due.sentence(zero + "choices", BoundaryTerms::rowZeroIsOfNoLeadForChoices);
    }

    private static void refusals() {
        Due.sentence("No call ever throws.", BoundaryTerms::noCallThrows);
        String refused = "A refused call answers the code named and changes nothing: ";
        Due.sentence(refused + "BAD_ARG", BoundaryTerms::refusedForItsArgumentChangesNothing);
        Due.sentence(refused + "FULL", BoundaryTerms::refusedForALimitChangesNothing);
        Due.sentence(refused + "NONE", BoundaryTerms::refusedForNoSuchThingChangesNothing);
        Due.sentence("The constants", BoundaryTerms::theConstants);
    }

    public static void main(String[] args) {
        whatItIs();
        bellsAndRows();
        changes();
        methodsAndCalls();
        touches();
        refusals();
        Due.end();
    }
}
