import java.util.Arrays;

// A BellRows that is quickly set up, and that counts its calls: a test that makes more of them
// than the document speaks of would test nothing.
final class Bells {
    private static final int MOST_CALLS = 512;

    private final BellRows rows;
    private final int allStay;
    private int callsMade = 0;

    Bells(int bells) {
        rows = new BellRows(bells);
        allStay = (1 << Math.min(6, Math.max(3, bells))) - 1;
    }

    // With this method in place of the one that a new object has.
    static Bells withMethod(int bells, int... sets) {
        Bells made = new Bells(bells);
        made.change(sets[0]);
        made.drop();
        for (int i = 1; i < sets.length; i++) {
            made.change(sets[i]);
        }
        return made;
    }

    Bells withCalls(int first, int second) {
        call(1, first);
        call(2, second);
        return this;
    }

    Bells withTouch(int... calls) {
        for (int call : calls) {
            lead(call);
        }
        return this;
    }

    Bells withPlainLeads(int count) {
        return withTouch(new int[count]);
    }

    // Three leads of this go through all six rows of three bells, the last of them rounds.
    static Bells huntOnThree() {
        return withMethod(3, 1, 4);
    }

    // Four leads of this go through eight rows of four bells, the last of them rounds.
    static Bells huntOnFour() {
        return withMethod(4, 0, 9);
    }

    // Leads of one row each: call 0 exchanges both pairs, 1 the middle one, 2 the last two.
    static Bells singleRows() {
        return withMethod(4, 0).withCalls(9, 3);
    }

    // Twelve changes and twenty leads, of which all 240 rows are different.
    static Bells fullAndTrue() {
        return withMethod(6, 3, 48, 3, 9, 3, 12, 3, 36, 48, 12, 9, 51).withCalls(15, 36)
            .withTouch(0, 1, 1, 1, 2, 1, 1, 0, 0, 1, 1, 1, 1, 0, 0, 1, 1, 1, 1, 0);
    }

    // As full, but row 240 is row 1 again; no other row comes twice.
    static Bells fullWithFirstRowLast() {
        return withMethod(6, 57, 48, 51, 57, 48, 57, 3, 39, 51, 33, 9, 33).withCalls(12, 39)
            .withTouch(2, 2, 1, 0, 2, 2, 1, 0, 2, 2, 1, 0, 2, 2, 1, 0, 2, 2, 1, 2);
    }

    // Twelve changes and twenty leads, and rounds in every row.
    static Bells fullAndStill() {
        return withMethod(6, 63, 63, 63, 63, 63, 63, 63, 63, 63, 63, 63, 63).withPlainLeads(20);
    }

    String rowsOf() {
        int[] codes = new int[last() + 1];
        for (int k = 0; k < codes.length; k++) {
            codes[k] = row(k);
        }
        return Arrays.toString(codes);
    }

    // All that the object holds. It is taken apart for that, and is of no use afterwards.
    String takenApart() {
        StringBuilder text = new StringBuilder("rows ").append(rowsOf());
        text.append(" answers ").append(isTrue()).append(' ').append(different()).append(' ')
            .append(falsePairs()).append(' ').append(home()).append(' ').append(choices());
        for (int call = 0; call <= 2; call++) {
            text.append(' ').append(falseAlone(call)).append(' ').append(order(call));
        }
        for (int bell = 1; bell <= 6; bell++) {
            text.append(' ').append(leads(bell));
        }
        text.append(" touch from its end");
        for (int call = back(); call != Due.NONE; call = back()) {
            text.append(' ').append(call);
        }
        text.append(" calls ").append(call(1, allStay)).append(' ').append(call(2, allStay));
        text.append(" method");
        for (int set = drop(); set != Due.NONE; set = drop()) {
            text.append(' ').append(set);
        }
        // The one that can't be dropped shows in what it makes of rounds.
        lead(0);
        return text.append(" and what makes ").append(row(1)).toString();
    }

    int callsMade() {
        return callsMade;
    }

    private BellRows counted() {
        if (callsMade == MOST_CALLS) {
            throw new IllegalStateException("the test makes too many calls");
        }
        callsMade++;
        return rows;
    }

    int change(int set) {
        return counted().change(set);
    }

    int drop() {
        return counted().drop();
    }

    int call(int call, int set) {
        return counted().call(call, set);
    }

    int lead(int call) {
        return counted().lead(call);
    }

    int back() {
        return counted().back();
    }

    int turn() {
        return counted().turn();
    }

    int last() {
        return counted().last();
    }

    int row(int k) {
        return counted().row(k);
    }

    int place(int bell, int k) {
        return counted().place(bell, k);
    }

    int isTrue() {
        return counted().isTrue();
    }

    int different() {
        return counted().different();
    }

    int falsePairs() {
        return counted().falsePairs();
    }

    int falseAlone(int call) {
        return counted().falseAlone(call);
    }

    int order(int call) {
        return counted().order(call);
    }

    int home() {
        return counted().home();
    }

    int leads(int bell) {
        return counted().leads(bell);
    }

    int choices() {
        return counted().choices();
    }
}
