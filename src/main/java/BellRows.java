/**
 * Rows of bells that are rung one after the other, each made of the one before by a change.
 *
 * Only the method, the calls' changes and the touch are kept. The rows are rung anew for each
 * question, because any change of the method or of a call changes all leads of the touch.
 */
public final class BellRows {
    public static final int BAD_ARG = -1;
    public static final int FULL = -2;
    public static final int NONE = -4;

    private static final int FEWEST_BELLS = 3;
    private static final int MOST_BELLS = 6;
    private static final int MOST_CHANGES = 12;
    private static final int MOST_LEADS = 20;
    private static final int CALLS = 3;

    // Row 0 and 21 leads of 12 changes: choices() rings one lead more than a touch may have.
    private static final int ROW_ROOM = 253;

    // Six bells have 720 rows, so leads that are all alike are back at rounds before this many.
    private static final int ORDER_BOUND = 1000;

    private final int[] method = new int[MOST_CHANGES];
    // The index is the call; slot 0 is unused, as a lead with call 0 ends as the method does.
    private final int[] callChange = new int[CALLS];
    private final int[] touch = new int[MOST_LEADS];

    // What was rung last; no answer rests on what an earlier call left here.
    private final int[] rowCode = new int[ROW_ROOM];
    private final int[] bellAt = new int[MOST_BELLS];

    private int bellCount;
    private int changeCount;
    private int leadCount;

    public BellRows(int bells) {
        bellCount = bells;
        if (bells < FEWEST_BELLS) {
            bellCount = FEWEST_BELLS;
        }
        if (bells > MOST_BELLS) {
            bellCount = MOST_BELLS;
        }
        int allStay = (1 << bellCount) - 1;
        method[0] = allStay;
        changeCount = 1;
        callChange[1] = allStay;
        callChange[2] = allStay;
        leadCount = 0;
    }

    public int change(int set) {
        if (!isChange(set)) {
            return BAD_ARG;
        }
        if (changeCount >= MOST_CHANGES) {
            return FULL;
        }
        method[changeCount] = set;
        changeCount++;
        return changeCount;
    }

    public int drop() {
        if (changeCount <= 1) {
            return NONE;
        }
        int first = method[0];
        for (int i = 1; i < changeCount; i++) {
            method[i - 1] = method[i];
        }
        changeCount--;
        return first;
    }

    public int call(int call, int set) {
        if (call < 1 || call >= CALLS || !isChange(set)) {
            return BAD_ARG;
        }
        int before = callChange[call];
        callChange[call] = set;
        return before;
    }

    public int lead(int call) {
        if (!isCall(call)) {
            return BAD_ARG;
        }
        if (leadCount >= MOST_LEADS) {
            return FULL;
        }
        touch[leadCount] = call;
        leadCount++;
        return leadCount;
    }

    public int back() {
        if (leadCount == 0) {
            return NONE;
        }
        leadCount--;
        return touch[leadCount];
    }

    public int turn() {
        if (leadCount == 0) {
            return NONE;
        }
        int first = touch[0];
        for (int i = 1; i < leadCount; i++) {
            touch[i - 1] = touch[i];
        }
        touch[leadCount - 1] = first;
        return first;
    }

    public int last() {
        return leadCount * changeCount;
    }

    public int row(int k) {
        if (!isRowNumber(k)) {
            return NONE;
        }
        ringTouch();
        return rowCode[k];
    }

    public int place(int bell, int k) {
        if (!isBell(bell)) {
            return BAD_ARG;
        }
        if (!isRowNumber(k)) {
            return NONE;
        }
        ringTouch();
        return placeIn(rowCode[k], bell);
    }

    public int isTrue() {
        ringTouch();
        int end = last();
        return hasRepeat(end) ? 0 : 1;
    }

    public int different() {
        ringTouch();
        int end = last();
        int count = 0;
        for (int k = 1; k <= end; k++) {
            if (!isAmong(rowCode[k], 1, k - 1)) {
                count++;
            }
        }
        return count;
    }

    public int falsePairs() {
        ringTouch();
        int count = 0;
        for (int second = 1; second < leadCount; second++) {
            for (int first = 0; first < second; first++) {
                if (shareRow(first, second)) {
                    count++;
                }
            }
        }
        return count;
    }

    public int falseAlone(int call) {
        if (!isCall(call)) {
            return BAD_ARG;
        }
        // Which rows of a lead are the same doesn't hang on the row it starts from.
        startAtRounds();
        ringLead(call, 0);
        return hasRepeat(changeCount) ? 1 : 0;
    }

    public int order(int call) {
        if (!isCall(call)) {
            return BAD_ARG;
        }
        startAtRounds();
        int count = 0;
        do {
            // Only the row at the lead's end is asked for, so each lead may overwrite the last.
            ringLead(call, 0);
            count++;
        } while (rowCode[changeCount] != rowCode[0] && count < ORDER_BOUND);
        return count;
    }

    public int home() {
        ringTouch();
        int end = last();
        return rowCode[end] == rowCode[0] ? 1 : 0;
    }

    public int leads(int bell) {
        if (!isBell(bell)) {
            return BAD_ARG;
        }
        ringTouch();
        int end = last();
        int count = 0;
        for (int k = 1; k <= end; k++) {
            if (placeIn(rowCode[k], bell) == 0) {
                count++;
            }
        }
        return count;
    }

    public int choices() {
        int end = last();
        int count = 0;
        for (int call = 0; call < CALLS; call++) {
            ringTouch();
            ringLead(call, end);
            if (!hasRepeat(end + changeCount)) {
                count++;
            }
        }
        return count;
    }

    private boolean isBell(int bell) {
        return bell >= 1 && bell <= bellCount;
    }

    private boolean isRowNumber(int k) {
        return k >= 0 && k <= last();
    }

    private static boolean isCall(int call) {
        return call >= 0 && call < CALLS;
    }

    private static boolean staysAt(int set, int place) {
        return (set >> place & 1) == 1;
    }

    private boolean isChange(int set) {
        if (set < 0 || set >= 1 << bellCount) {
            return false;
        }
        for (int p = 0; p < bellCount; p++) {
            if (!staysAt(set, p)) {
                // Its neighbour goes with it, and is not looked at on its own.
                p++;
                if (p >= bellCount || staysAt(set, p)) {
                    return false;
                }
            }
        }
        return true;
    }

    private void startAtRounds() {
        for (int p = 0; p < bellCount; p++) {
            bellAt[p] = p + 1;
        }
        rowCode[0] = codeOfBells();
    }

    private int codeOfBells() {
        int code = 0;
        for (int p = 0; p < bellCount; p++) {
            code = code * 10 + bellAt[p];
        }
        return code;
    }

    private void ringTouch() {
        startAtRounds();
        for (int i = 0; i < leadCount; i++) {
            ringLead(touch[i], i * changeCount);
        }
    }

    private void ringLead(int call, int rowBefore) {
        for (int i = 0; i < changeCount; i++) {
            int set = method[i];
            if (call != 0 && i == changeCount - 1) {
                set = callChange[call];
            }
            exchange(set);
            rowCode[rowBefore + 1 + i] = codeOfBells();
        }
    }

    private void exchange(int set) {
        for (int p = 0; p + 1 < bellCount; p++) {
            if (!staysAt(set, p)) {
                int bell = bellAt[p];
                bellAt[p] = bellAt[p + 1];
                bellAt[p + 1] = bell;
                // The neighbour has moved already.
                p++;
            }
        }
    }

    private int placeIn(int code, int bell) {
        int left = code;
        for (int p = bellCount - 1; p > 0; p--) {
            if (left % 10 == bell) {
                return p;
            }
            left = left / 10;
        }
        return 0;
    }

    private boolean isAmong(int code, int from, int to) {
        for (int k = from; k <= to; k++) {
            if (rowCode[k] == code) {
                return true;
            }
        }
        return false;
    }

    // Row 0 belongs to no lead, so it is left out.
    private boolean hasRepeat(int end) {
        for (int k = 2; k <= end; k++) {
            if (isAmong(rowCode[k], 1, k - 1)) {
                return true;
            }
        }
        return false;
    }

    private boolean shareRow(int firstLead, int secondLead) {
        int firstStart = firstLead * changeCount;
        int secondStart = secondLead * changeCount;
        for (int i = 1; i <= changeCount; i++) {
            if (isAmong(rowCode[secondStart + i], firstStart + 1, firstStart + changeCount)) {
                return true;
            }
        }
        return false;
    }
}
