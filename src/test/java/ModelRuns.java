import java.util.ArrayList;
import java.util.HashSet;
import java.util.List;
import java.util.Set;

// Long runs of mixed calls, each answer compared with a second, plainer telling of the document
// over strings, lists and sets. The runs are the same every time.
public final class ModelRuns {
    private static final int RUNS = 1500;
    private static final int CALLS_OF_A_RUN = 512;
    private static final int BAD_ARG = -1;
    private static final int FULL = -2;
    private static final int NONE = -4;

    private static long seed = 20261115L;

    private static int below(int bound) {
        seed = seed * 6364136223846793005L + 1442695040888963407L;
        return (int) ((seed >>> 33) % bound);
    }

    private static final class Model {
        final int n;
        final List<Integer> method = new ArrayList<>();
        final int[] callChange;
        final List<Integer> touch = new ArrayList<>();

        Model(int bells) {
            n = Math.min(6, Math.max(3, bells));
            int all = (1 << n) - 1;
            method.add(all);
            callChange = new int[] {0, all, all};
        }

        // A set is a change if each run of places that are not in it is of even length.
        boolean fits(int set) {
            if (set < 0 || set > (1 << n) - 1) {
                return false;
            }
            StringBuilder moved = new StringBuilder();
            for (int p = 0; p < n; p++) {
                moved.append((set & (1 << p)) != 0 ? ' ' : 'x');
            }
            for (String stretch : moved.toString().split(" +")) {
                if (stretch.length() % 2 != 0) {
                    return false;
                }
            }
            return true;
        }

        String rounds() {
            return "123456".substring(0, n);
        }

        String under(String row, int set) {
            StringBuilder next = new StringBuilder();
            while (next.length() < n) {
                int p = next.length();
                if ((set & (1 << p)) != 0) {
                    next.append(row.charAt(p));
                } else {
                    next.append(row.charAt(p + 1)).append(row.charAt(p));
                }
            }
            return next.toString();
        }

        List<String> leadFrom(String start, int call) {
            List<Integer> changes = new ArrayList<>(method);
            if (call > 0) {
                changes.set(changes.size() - 1, callChange[call]);
            }
            List<String> made = new ArrayList<>();
            String row = start;
            for (int set : changes) {
                row = under(row, set);
                made.add(row);
            }
            return made;
        }

        List<List<String>> ring(List<Integer> calls) {
            List<List<String>> rung = new ArrayList<>();
            String row = rounds();
            for (int call : calls) {
                List<String> made = leadFrom(row, call);
                rung.add(made);
                row = made.get(made.size() - 1);
            }
            return rung;
        }

        List<String> owned(List<Integer> calls) {
            List<String> rows = new ArrayList<>();
            ring(calls).forEach(rows::addAll);
            return rows;
        }

        List<String> allRows() {
            List<String> rows = owned(touch);
            rows.add(0, rounds());
            return rows;
        }

        boolean isTrue(List<Integer> calls) {
            List<String> rows = owned(calls);
            return new HashSet<>(rows).size() == rows.size();
        }

        int change(int set) {
            if (!fits(set)) {
                return BAD_ARG;
            }
            if (method.size() == 12) {
                return FULL;
            }
            method.add(set);
            return method.size();
        }

        int drop() {
            return method.size() == 1 ? NONE : method.remove(0);
        }

        int call(int call, int set) {
            if (call != 1 && call != 2 || !fits(set)) {
                return BAD_ARG;
            }
            int before = callChange[call];
            callChange[call] = set;
            return before;
        }

        int lead(int call) {
            if (call < 0 || call > 2) {
                return BAD_ARG;
            }
            if (touch.size() == 20) {
                return FULL;
            }
            touch.add(call);
            return touch.size();
        }

        int back() {
            return touch.isEmpty() ? NONE : touch.remove(touch.size() - 1);
        }

        int turn() {
            if (touch.isEmpty()) {
                return NONE;
            }
            touch.add(touch.remove(0));
            return touch.get(touch.size() - 1);
        }

        int row(int k) {
            List<String> rows = allRows();
            return k < 0 || k >= rows.size() ? NONE : Integer.parseInt(rows.get(k));
        }

        int place(int bell, int k) {
            if (bell < 1 || bell > n) {
                return BAD_ARG;
            }
            int code = row(k);
            return code == NONE ? NONE : String.valueOf(code).indexOf(String.valueOf(bell));
        }

        int falsePairs() {
            List<List<String>> rung = ring(touch);
            int count = 0;
            for (int i = 0; i < rung.size(); i++) {
                for (int j = i + 1; j < rung.size(); j++) {
                    Set<String> common = new HashSet<>(rung.get(i));
                    common.retainAll(rung.get(j));
                    count += common.isEmpty() ? 0 : 1;
                }
            }
            return count;
        }

        int falseAlone(int call) {
            if (call < 0 || call > 2) {
                return BAD_ARG;
            }
            return isTrue(List.of(call)) ? 0 : 1;
        }

        int order(int call) {
            if (call < 0 || call > 2) {
                return BAD_ARG;
            }
            List<Integer> calls = new ArrayList<>();
            List<String> rows;
            do {
                calls.add(call);
                rows = owned(calls);
            } while (!rows.get(rows.size() - 1).equals(rounds()));
            return calls.size();
        }

        int home() {
            List<String> rows = allRows();
            return rows.get(rows.size() - 1).equals(rounds()) ? 1 : 0;
        }

        int leads(int bell) {
            if (bell < 1 || bell > n) {
                return BAD_ARG;
            }
            String first = String.valueOf(bell);
            return (int) owned(touch).stream().filter(row -> row.startsWith(first)).count();
        }

        int choices() {
            int count = 0;
            for (int call = 0; call <= 2; call++) {
                List<Integer> longer = new ArrayList<>(touch);
                longer.add(call);
                count += isTrue(longer) ? 1 : 0;
            }
            return count;
        }
    }

    // Some numbers are far out of every range; most are in it or just beside it.
    private static int number(int from, int to) {
        switch (below(40)) {
            case 0: return Integer.MIN_VALUE + below(3);
            case 1: return Integer.MAX_VALUE - below(3);
            case 2: return from - 1 - below(2);
            case 3: return to + 1 + below(2);
            default: return from + below(to - from + 1);
        }
    }

    private static int someSet(Model m) {
        int set = number(0, (1 << m.n) - 1);
        for (int tries = below(20); tries > 0 && !m.fits(set); tries--) {
            set = below(1 << m.n);
        }
        return set;
    }

    // Leads come more often than what takes them away in a growing run, so that limits are met.
    private static int someKind(boolean growing) {
        int kind = below(26);
        if (kind >= 18) {
            return growing ? (kind % 2 == 0 ? 1 : 4) : (kind % 2 == 0 ? 2 : 5);
        }
        return kind + 1;
    }

    private static String step(BellRows x, Model m, boolean growing) {
        int kind = someKind(growing);
        int call = number(0, 2);
        int bell = number(1, m.n);
        int k = number(0, m.touch.size() * m.method.size());
        int set = someSet(m);
        switch (kind) {
            case 1: return told("change(" + set + ")", x.change(set), m.change(set));
            case 2: return told("drop()", x.drop(), m.drop());
            case 3: return told("call(" + call + ", " + set + ")", x.call(call, set), m.call(call, set));
            case 4: return told("lead(" + call + ")", x.lead(call), m.lead(call));
            case 5: return told("back()", x.back(), m.back());
            case 6: return told("turn()", x.turn(), m.turn());
            case 7: return told("last()", x.last(), m.touch.size() * m.method.size());
            case 8: return told("row(" + k + ")", x.row(k), m.row(k));
            case 9: return told("place(" + bell + ", " + k + ")", x.place(bell, k), m.place(bell, k));
            case 10: return told("isTrue()", x.isTrue(), m.isTrue(m.touch) ? 1 : 0);
            case 11: return told("different()", x.different(), new HashSet<>(m.owned(m.touch)).size());
            case 12: return told("falsePairs()", x.falsePairs(), m.falsePairs());
            case 13: return told("falseAlone(" + call + ")", x.falseAlone(call), m.falseAlone(call));
            case 14: return told("order(" + call + ")", x.order(call), m.order(call));
            case 15: return told("home()", x.home(), m.home());
            case 16: return told("leads(" + bell + ")", x.leads(bell), m.leads(bell));
            default: return told("choices()", x.choices(), m.choices());
        }
    }

    private static String told(String call, int got, int want) {
        return got == want ? "" : call + " answered " + got + ", due is " + want;
    }

    public static void main(String[] args) {
        int wrong = 0;
        for (int run = 0; run < RUNS; run++) {
            int bells = number(3, 6);
            BellRows x = new BellRows(bells);
            Model m = new Model(bells);
            for (int i = 1; i <= CALLS_OF_A_RUN; i++) {
                String fault = step(x, m, (run + i / 100) % 3 != 0);
                if (!fault.isEmpty()) {
                    wrong++;
                    System.out.println("run " + run + ", bells " + bells + ", call " + i + ": " + fault);
                    break;
                }
            }
        }
        System.out.println(wrong == 0 ? "all runs agree with the model" : wrong + " runs don't");
        if (wrong != 0) {
            System.exit(1);
        }
    }
}
