import java.util.Arrays;

// One method for each promise: ordinary inputs, the edges that the document names, wrong inputs.
public final class PromiseTests {
    private static final int BAD_ARG = -1;
    private static final int FULL = -2;
    private static final int NONE = -4;
    private static final int LOWEST = Integer.MIN_VALUE;
    private static final int HIGHEST = Integer.MAX_VALUE;
    private static final int[] NO_CALLS = {LOWEST, -2, -1, 3, 4, 100, HIGHEST};

    private static int wrong = 0;

    private static void due(String what, int got, int want) {
        if (got != want) {
            wrong++;
            System.out.println(what + " answered " + got + ", due is " + want);
        }
    }

    // The answers to all questions: a state that a refused call changed would show in them.
    private static int[] answers(BellRows x) {
        int[] all = new int[300];
        int at = 0;
        all[at++] = x.last();
        all[at++] = x.isTrue();
        all[at++] = x.different();
        all[at++] = x.falsePairs();
        all[at++] = x.home();
        all[at++] = x.choices();
        for (int call = 0; call <= 2; call++) {
            all[at++] = x.falseAlone(call);
            all[at++] = x.order(call);
        }
        for (int bell = 1; bell <= 6; bell++) {
            all[at++] = x.leads(bell);
        }
        for (int k = 0; k <= x.last(); k++) {
            all[at++] = x.row(k);
        }
        return all;
    }

    private static void dueSame(String what, BellRows x, int[] before) {
        if (!Arrays.equals(answers(x), before)) {
            wrong++;
            System.out.println(what + " changed something, due is that it changes nothing");
        }
    }

    private static void dueRows(String what, BellRows x, int... codes) {
        due(what + ": last()", x.last(), codes.length - 1);
        for (int k = 0; k < codes.length; k++) {
            due(what + ": row(" + k + ")", x.row(k), codes[k]);
        }
        due(what + ": row(" + codes.length + ")", x.row(codes.length), NONE);
    }

    private static BellRows withMethod(int bells, int... sets) {
        BellRows x = new BellRows(bells);
        x.change(sets[0]);
        x.drop();
        for (int i = 1; i < sets.length; i++) {
            x.change(sets[i]);
        }
        return x;
    }

    private static void addLeads(BellRows x, int... calls) {
        for (int call : calls) {
            x.lead(call);
        }
    }

    private static void addPlainLeads(BellRows x, int count) {
        for (int i = 0; i < count; i++) {
            x.lead(0);
        }
    }

    // Three leads of this go through all six rows of three bells and end in rounds.
    private static BellRows huntOnThree() {
        return withMethod(3, 1, 4);
    }

    // Four leads of this go through eight rows of four bells and end in rounds.
    private static BellRows huntOnFour() {
        return withMethod(4, 0, 9);
    }

    // Leads of one change each: 0 exchanges both pairs, 1 the middle, 2 the two last places.
    private static BellRows singleChanges() {
        BellRows x = withMethod(4, 0);
        x.call(1, 9);
        x.call(2, 3);
        return x;
    }

    private static void promise1NewObject() {
        int[] given = {LOWEST, -1, 0, 2, 3, 4, 5, 6, 7, HIGHEST};
        int[] clamped = {3, 3, 3, 3, 3, 4, 5, 6, 6, 6};
        int[] rounds = {0, 0, 0, 123, 1234, 12345, 123456};
        for (int i = 0; i < given.length; i++) {
            String what = "1: new BellRows(" + given[i] + ")";
            int n = clamped[i];
            int allStay = (1 << n) - 1;
            BellRows x = new BellRows(given[i]);
            dueRows(what, x, rounds[n]);
            due(what + " back", x.back(), NONE);
            due(what + " turn", x.turn(), NONE);
            due(what + " drop", x.drop(), NONE);
            due(what + " leads(n)", x.leads(n), 0);
            due(what + " leads(n + 1)", x.leads(n + 1), BAD_ARG);
            addLeads(x, 0, 1, 2);
            dueRows(what + " with leads", x, rounds[n], rounds[n], rounds[n], rounds[n]);
            due(what + " call(1, ..)", x.call(1, allStay), allStay);
            due(what + " call(2, ..)", x.call(2, allStay), allStay);
            due(what + " change", x.change(allStay), 2);
            due(what + " drop of two", x.drop(), allStay);
        }
    }

    // Written down by hand, so that they don't come from the rule that is tested.
    private static int[] changesOf(int n) {
        switch (n) {
            case 3: return new int[] {1, 4, 7};
            case 4: return new int[] {0, 3, 9, 12, 15};
            case 5: return new int[] {1, 4, 7, 16, 19, 25, 28, 31};
            default: return new int[] {0, 3, 9, 12, 15, 33, 36, 39, 48, 51, 57, 60, 63};
        }
    }

    private static boolean has(int[] list, int wanted) {
        return Arrays.stream(list).anyMatch(one -> one == wanted);
    }

    private static void promise2WhichSets() {
        for (int n = 3; n <= 6; n++) {
            for (int set = -300; set <= 300; set++) {
                boolean good = has(changesOf(n), set);
                String what = "2: n " + n + " change(" + set + ")";
                due(what, new BellRows(n).change(set), good ? 2 : BAD_ARG);
            }
            int[] far = {LOWEST, LOWEST + 15, HIGHEST, 1 << 30, (1 << 16) + 63, (1 << 16) + 7};
            for (int set : far) {
                due("2: n " + n + " change(" + set + ")", new BellRows(n).change(set), BAD_ARG);
            }
        }
    }

    // Rounds under each change of six bells.
    private static void promise2WhatAChangeDoes() {
        int[] made = {214365, 124365, 132465, 213465, 123465, 132546, 213546, 123546,
            214356, 124356, 132456, 213456, 123456};
        int[] sets = changesOf(6);
        for (int i = 0; i < sets.length; i++) {
            BellRows x = withMethod(6, sets[i]);
            x.lead(0);
            due("2: rounds under the change " + sets[i], x.row(1), made[i]);
        }
    }

    private static void promise2Change() {
        promise2WhichSets();
        promise2WhatAChangeDoes();
        BellRows x = new BellRows(4);
        for (int count = 2; count <= 12; count++) {
            due("2: change up to 12", x.change(count % 2 == 0 ? 0 : 9), count);
        }
        x.lead(0);
        int[] before = answers(x);
        due("2: the 13th change", x.change(3), FULL);
        due("2: that it is no change is tested first", x.change(1), BAD_ARG);
        dueSame("2: a refused change", x, before);
        due("2: drop", x.drop(), 15);
        due("2: room after a drop", x.change(3), 12);

        BellRows y = withMethod(5, 16);
        y.lead(0);
        dueRows("2: one change", y, 12345, 21435);
        y.change(4);
        dueRows("2: a change at the end, also of leads there are", y, 12345, 21435, 12453);
    }

    private static void promise3Drop() {
        BellRows x = withMethod(4, 0, 9, 3);
        x.call(1, 12);
        addLeads(x, 0, 1);
        dueRows("3: before", x, 1234, 2143, 2413, 2431, 4213, 4123, 1423);
        due("3: drop of three", x.drop(), 0);
        dueRows("3: after one", x, 1234, 1324, 1342, 1432, 4132);
        due("3: drop of two", x.drop(), 9);
        dueRows("3: after two", x, 1234, 1243, 2143);
        int[] before = answers(x);
        due("3: drop of one", x.drop(), NONE);
        dueSame("3: a refused drop", x, before);
        due("3: how many are left", x.change(0), 2);

        BellRows full = new BellRows(6);
        for (int i = 1; i < 12; i++) {
            full.change(changesOf(6)[i]);
        }
        due("3: drop of twelve", full.drop(), 63);
        for (int i = 1; i < 11; i++) {
            due("3: drop in order", full.drop(), changesOf(6)[i]);
        }
        due("3: drop of the last one", full.drop(), NONE);
    }

    private static void promise4Call() {
        BellRows x = huntOnFour();
        due("4: call 1", x.call(1, 3), 15);
        due("4: call 2", x.call(2, 12), 15);
        addLeads(x, 1, 2, 0);
        dueRows("4: the leads", x, 1234, 2143, 2134, 1243, 2143, 1234, 1324);
        int[] before = answers(x);
        for (int call : new int[] {LOWEST, -1, 0, 3, 4, HIGHEST}) {
            due("4: call(" + call + ", 3)", x.call(call, 3), BAD_ARG);
        }
        for (int call = -1; call <= 3; call++) {
            for (int set : new int[] {LOWEST, -1, 1, 2, 4, 5, 6, 7, 8, 10, 13, 14, 16, 31, HIGHEST}) {
                due("4: call(" + call + ", " + set + ")", x.call(call, set), BAD_ARG);
            }
        }
        dueSame("4: a refused call", x, before);
        due("4: call 1 again", x.call(1, 9), 3);
        dueRows("4: leads there are", x, 1234, 2143, 2413, 4231, 2431, 4213, 4123);
        due("4: call 2 again", x.call(2, 15), 12);
        due("4: call 1 is kept apart", x.call(1, 0), 9);
        due("4: call 2 is kept apart", x.call(2, 0), 15);

        BellRows single = singleChanges();
        addLeads(single, 0, 1, 2);
        dueRows("4: a method of one change", single, 1234, 2143, 2413, 2431);
    }

    private static void promise5Lead() {
        BellRows x = huntOnFour();
        x.call(1, 3);
        for (int call : NO_CALLS) {
            due("5: lead(" + call + ")", x.lead(call), BAD_ARG);
        }
        due("5: no lead after refused ones", x.last(), 0);
        for (int count = 1; count <= 20; count++) {
            due("5: lead up to 20", x.lead(count % 3), count);
        }
        int[] before = answers(x);
        for (int call = 0; call <= 2; call++) {
            due("5: the 21st lead", x.lead(call), FULL);
        }
        for (int call : NO_CALLS) {
            due("5: the call is tested first, lead(" + call + ")", x.lead(call), BAD_ARG);
        }
        dueSame("5: a refused lead", x, before);
        due("5: back", x.back(), 20 % 3);
        due("5: room after back", x.lead(1), 20);
    }

    private static void promise6Back() {
        BellRows x = huntOnFour();
        x.call(1, 3);
        addLeads(x, 1, 2, 0);
        due("6: back of three", x.back(), 0);
        due("6: back of two", x.back(), 2);
        dueRows("6: one lead is left", x, 1234, 2143, 2134);
        due("6: back of one", x.back(), 1);
        int[] before = answers(x);
        due("6: back of none", x.back(), NONE);
        dueSame("6: a refused back", x, before);
        due("6: lead after it", x.lead(2), 1);
        addPlainLeads(x, 18);
        due("6: the twentieth lead", x.lead(1), 20);
        due("6: back of twenty", x.back(), 1);
        due("6: back of nineteen", x.back(), 0);
    }

    private static void promise7Turn() {
        BellRows x = huntOnFour();
        int[] none = answers(x);
        due("7: turn of none", x.turn(), NONE);
        dueSame("7: a refused turn", x, none);
        x.call(1, 3);
        x.call(2, 12);
        x.lead(1);
        due("7: turn of one", x.turn(), 1);
        dueRows("7: one lead", x, 1234, 2143, 2134);
        addLeads(x, 2, 0);
        due("7: turn of three", x.turn(), 1);
        dueRows("7: three leads", x, 1234, 2143, 1243, 2134, 2314, 3241, 3214);
        due("7: turn again", x.turn(), 2);
        due("7: back after two turns", x.back(), 2);
        due("7: back again", x.back(), 1);
        due("7: and again", x.back(), 0);
        due("7: none are left", x.back(), NONE);

        BellRows full = huntOnFour();
        full.lead(2);
        addPlainLeads(full, 19);
        due("7: turn of twenty", full.turn(), 2);
        due("7: twenty leads are left", full.last(), 40);
        due("7: the first is the last", full.back(), 2);
        due("7: the second is the first", full.turn(), 0);
    }

    private static void promise8Last() {
        BellRows x = huntOnFour();
        due("8: no leads", x.last(), 0);
        addLeads(x, 0, 1, 2);
        due("8: three leads of two", x.last(), 6);
        x.change(3);
        due("8: three leads of three", x.last(), 9);
        x.back();
        due("8: two leads of three", x.last(), 6);
        x.drop();
        x.drop();
        due("8: two leads of one", x.last(), 2);
        BellRows full = new BellRows(6);
        for (int i = 0; i < 11; i++) {
            full.change(0);
        }
        addPlainLeads(full, 20);
        due("8: twenty leads of twelve", full.last(), 240);
        due("8: the last row of all", full.row(240), 123456);
    }

    private static void promise9Row() {
        BellRows x = huntOnThree();
        for (int k : new int[] {LOWEST, -1, 1, 2, HIGHEST}) {
            due("9: no leads, row(" + k + ")", x.row(k), NONE);
        }
        due("9: no leads, row(0)", x.row(0), 123);
        addPlainLeads(x, 3);
        dueRows("9: three bells", x, 123, 132, 312, 321, 231, 213, 123);
        for (int k : new int[] {LOWEST, -1, 7, 8, 252, 253, HIGHEST}) {
            due("9: row(" + k + ")", x.row(k), NONE);
        }
        BellRows y = huntOnFour();
        addPlainLeads(y, 4);
        dueRows("9: four bells", y, 1234, 2143, 2413, 4231, 4321, 3412, 3142, 1324, 1234);
        y.back();
        due("9: a row that was there before back", y.row(7), NONE);
    }

    private static void promise10Place() {
        BellRows x = huntOnFour();
        x.lead(0);
        int[][] places = {{0, 1, 2, 3}, {1, 0, 3, 2}, {2, 0, 3, 1}};
        for (int k = 0; k < places.length; k++) {
            for (int bell = 1; bell <= 4; bell++) {
                due("10: place(" + bell + ", " + k + ")", x.place(bell, k), places[k][bell - 1]);
            }
        }
        for (int k : new int[] {LOWEST, -1, 3, 4, 253, HIGHEST}) {
            due("10: place(4, " + k + ")", x.place(4, k), NONE);
            for (int bell : new int[] {LOWEST, -1, 0, 5, 6, HIGHEST}) {
                due("10: place(" + bell + ", " + k + ")", x.place(bell, k), BAD_ARG);
            }
        }
        for (int bell : new int[] {LOWEST, -1, 0, 5, 6, HIGHEST}) {
            due("10: place(" + bell + ", 1)", x.place(bell, 1), BAD_ARG);
        }
        due("10: the sixth bell of six", new BellRows(6).place(6, 0), 5);
        due("10: the fourth bell of three", new BellRows(3).place(4, 0), BAD_ARG);
    }

    private static void promise11IsTrue() {
        BellRows x = huntOnThree();
        due("11: no leads", x.isTrue(), 1);
        addPlainLeads(x, 3);
        due("11: row 0 belongs to no lead", x.isTrue(), 1);
        x.lead(0);
        due("11: a row comes again in another lead", x.isTrue(), 0);
        x.back();
        due("11: without that lead", x.isTrue(), 1);

        BellRows twice = withMethod(4, 0, 0);
        twice.lead(0);
        due("11: out and back to rounds", twice.isTrue(), 1);
        twice.change(0);
        due("11: a row comes twice in one lead", twice.isTrue(), 0);

        BellRows still = new BellRows(5);
        still.lead(1);
        due("11: rounds belongs once", still.isTrue(), 1);
        still.lead(1);
        due("11: rounds belongs twice", still.isTrue(), 0);
    }

    private static void promise12Different() {
        BellRows x = huntOnThree();
        due("12: no leads", x.different(), 0);
        for (int count = 1; count <= 20; count++) {
            x.lead(0);
            due("12: leads " + count, x.different(), count < 3 ? 2 * count : 6);
        }
        BellRows still = new BellRows(6);
        addPlainLeads(still, 2);
        due("12: rounds alone", still.different(), 1);
        BellRows twice = withMethod(4, 0, 0, 0);
        twice.lead(0);
        due("12: two rows in one lead of three", twice.different(), 2);
    }

    private static void promise13FalsePairs() {
        BellRows x = huntOnThree();
        due("13: no leads", x.falsePairs(), 0);
        int[] pairs = {0, 0, 0, 1, 2, 3, 5, 7, 9, 12};
        for (int i = 0; i < pairs.length; i++) {
            x.lead(0);
            due("13: leads " + (i + 1), x.falsePairs(), pairs[i]);
        }
        BellRows still = new BellRows(4);
        addPlainLeads(still, 20);
        due("13: all pairs of twenty", still.falsePairs(), 190);

        BellRows alone = withMethod(4, 0, 0, 0);
        alone.lead(0);
        due("13: a lead is no pair with itself", alone.falsePairs(), 0);
        alone.lead(0);
        due("13: a pair with many same rows is one", alone.falsePairs(), 1);

        // Rows 2143 | 1234 | 1324 | 1234.
        BellRows ends = singleChanges();
        addLeads(ends, 0, 0, 1, 1);
        due("13: leads 2 and 4", ends.falsePairs(), 1);
        // Rows 1324 1234 | 1324 3142.
        BellRows starts = withMethod(4, 9, 9);
        starts.call(1, 0);
        addLeads(starts, 0, 1);
        due("13: the first rows", starts.falsePairs(), 1);
        // Rows 2143 | 1234: rounds is also row 0, which belongs to no lead.
        BellRows rounds = singleChanges();
        addLeads(rounds, 0, 0);
        due("13: row 0 is in no pair", rounds.falsePairs(), 0);
    }

    private static void promise14FalseAlone() {
        BellRows x = withMethod(4, 0, 0);
        due("14: the row before the lead is not of it", x.falseAlone(0), 0);
        due("14: call 1 stays", x.falseAlone(1), 1);
        due("14: call 2 stays", x.falseAlone(2), 1);
        x.change(0);
        due("14: a row twice", x.falseAlone(0), 1);
        due("14: call 1, rounds twice", x.falseAlone(1), 1);
        x.call(1, 9);
        due("14: call 1 ends otherwise", x.falseAlone(1), 0);
        due("14: call 2 is kept apart", x.falseAlone(2), 1);
        x.call(2, 3);
        addLeads(x, 0, 0, 1);
        due("14: the touch has no part, call 0", x.falseAlone(0), 1);
        due("14: the touch has no part, call 1", x.falseAlone(1), 0);
        due("14: the touch has no part, call 2", x.falseAlone(2), 0);
        for (int call : NO_CALLS) {
            due("14: falseAlone(" + call + ")", x.falseAlone(call), BAD_ARG);
        }
        BellRows single = new BellRows(3);
        due("14: one row can't come twice", single.falseAlone(0), 0);
        // The first and the last of nine rows are the same, and no others.
        BellRows round = withMethod(4, 0, 9, 0, 9, 0, 9, 0, 9, 0);
        due("14: first and last", round.falseAlone(0), 1);
        round.call(1, 3);
        due("14: another last one", round.falseAlone(1), 0);
    }

    private static void promise15Order() {
        BellRows x = huntOnThree();
        due("15: call 0", x.order(0), 3);
        due("15: call 1", x.order(1), 2);
        x.call(2, 1);
        due("15: rounds after one lead", x.order(2), 1);
        x.lead(0);
        due("15: the touch has no part", x.order(0), 3);
        for (int call : NO_CALLS) {
            due("15: order(" + call + ")", x.order(call), BAD_ARG);
        }
        due("15: four", huntOnFour().order(0), 4);
        due("15: five", withMethod(5, 16, 1).order(0), 5);
        due("15: six, of three and two bells", withMethod(5, 25, 4).order(0), 6);
        due("15: six, of all six bells", withMethod(6, 0, 33).order(0), 6);
        // Rounds comes after two of the three changes, and again only after two leads.
        due("15: rounds within a lead", withMethod(4, 0, 0, 0).order(0), 2);
        due("15: two", withMethod(4, 0).order(0), 2);
    }

    private static void promise16Home() {
        BellRows x = huntOnThree();
        due("16: no leads", x.home(), 1);
        for (int count = 1; count <= 20; count++) {
            x.lead(0);
            due("16: leads " + count, x.home(), count % 3 == 0 ? 1 : 0);
        }
        BellRows passed = withMethod(4, 0, 0, 9);
        passed.lead(0);
        due("16: rounds before the last row", passed.home(), 0);
        passed.lead(1);
        due("16: another last row", passed.home(), 0);
        passed.turn();
        passed.back();
        due("16: rounds as the last row", passed.home(), 1);
    }

    private static void promise17Leads() {
        BellRows x = huntOnThree();
        for (int bell = 1; bell <= 3; bell++) {
            due("17: no leads, leads(" + bell + ")", x.leads(bell), 0);
        }
        x.lead(0);
        due("17: leads(1) in 132 312", x.leads(1), 1);
        due("17: leads(2) in 132 312", x.leads(2), 0);
        due("17: leads(3) in 132 312", x.leads(3), 1);
        addPlainLeads(x, 2);
        for (int bell = 1; bell <= 3; bell++) {
            due("17: all rows, leads(" + bell + ")", x.leads(bell), 2);
        }
        x.lead(0);
        due("17: rows that come twice count twice", x.leads(1), 3);
        for (int bell : new int[] {LOWEST, -1, 0, 4, 5, 6, 7, HIGHEST}) {
            due("17: leads(" + bell + ")", x.leads(bell), BAD_ARG);
        }
        BellRows still = new BellRows(6);
        addPlainLeads(still, 20);
        due("17: always", still.leads(1), 20);
        due("17: never", still.leads(6), 0);
        due("17: no seventh bell", still.leads(7), BAD_ARG);
    }

    private static void promise18Choices() {
        BellRows still = new BellRows(3);
        due("18: rounds may belong once", still.choices(), 3);
        still.lead(0);
        due("18: but not twice", still.choices(), 0);

        BellRows hunt = huntOnThree();
        due("18: calls whose lead is false alone", hunt.choices(), 1);
        addPlainLeads(hunt, 4);
        due("18: the touch is false already", hunt.choices(), 0);

        BellRows x = singleChanges();
        due("18: no leads", x.choices(), 3);
        x.lead(0);
        due("18: row 0 belongs to no lead", x.choices(), 3);
        x.lead(0);
        due("18: 2143 has come", x.choices(), 2);
        x.lead(1);
        due("18: 1234 has come", x.choices(), 2);
    }

    // The plain course of all 24 rows of four bells, of which a touch holds the first 20.
    private static void promise18ChoicesWhenFull() {
        BellRows x = singleChanges();
        int[] course = {0, 1, 0, 1, 0, 1, 0, 2};
        for (int i = 0; i < 20; i++) {
            x.lead(course[i % 8]);
        }
        due("18: twenty leads are true", x.isTrue(), 1);
        int[] before = answers(x);
        due("18: one more lead with call 0", x.choices(), 1);
        due("18: for which there is no room", x.lead(0), FULL);
        dueSame("18: asking for choices", x, before);

        BellRows most = new BellRows(6);
        for (int i = 0; i < 11; i++) {
            most.change(0);
        }
        addPlainLeads(most, 20);
        due("18: twenty leads of twelve", most.choices(), 0);
    }

    // All that is promised is promised of one object, whatever is done to another meanwhile.
    private static void objectsAreKeptApart() {
        BellRows x = huntOnFour();
        BellRows y = huntOnThree();
        due("x: call", x.call(1, 3), 15);
        due("y: call", y.call(1, 1), 7);
        due("x: lead", x.lead(0), 1);
        due("y: lead", y.lead(1), 1);
        due("x: lead again", x.lead(1), 2);
        due("y: change", y.change(4), 3);
        due("y: last", y.last(), 3);
        dueRows("x", x, 1234, 2143, 2413, 4231, 4213);
        dueRows("y", y, 123, 132, 312, 321);
        due("x: place", x.place(4, 3), 0);
        due("y: no bell 4", y.place(4, 3), BAD_ARG);
        due("y: back", y.back(), 1);
        due("x: order", x.order(0), 4);
        due("x: turn", x.turn(), 0);
        due("y: none is left", y.turn(), NONE);
        due("x: back", x.back(), 0);
    }

    public static void main(String[] args) {
        promise1NewObject();
        promise2Change();
        promise3Drop();
        promise4Call();
        promise5Lead();
        promise6Back();
        promise7Turn();
        promise8Last();
        promise9Row();
        promise10Place();
        promise11IsTrue();
        promise12Different();
        promise13FalsePairs();
        promise14FalseAlone();
        promise15Order();
        promise16Home();
        promise17Leads();
        promise18Choices();
        promise18ChoicesWhenFull();
        objectsAreKeptApart();
        System.out.println(wrong == 0 ? "all promises hold" : wrong + " answers are not as due");
        if (wrong != 0) {
            System.exit(1);
        }
    }
}
