import java.util.ArrayList;
import java.util.Comparator;
import java.util.HashSet;
import java.util.List;
import java.util.Set;

/**
 * Many runs of calls, each answer compared with that of a slow model, which holds rows as text, lists
 * readings one by one and looks for doubtful rows bit by bit. The runs are the same each time.
 */
public final class ModelTest {
    private static final int NONE = -4;
    private static final int RUNS = 1500;
    private static final int CALLS = 512;
    /** To list readings one by one takes long for some sets, so runs list them for shorter rows alone. */
    private static final int MANY = 3000;

    private static long seed = 20260101L;
    private static int wrong = 0;

    private static int pick(int bound) {
        seed = seed * 6364136223846793005L + 1442695040888963407L;
        return (int) ((seed >>> 33) % bound);
    }

    private static final class Model {
        final List<String> words = new ArrayList<>();
        String row = "";

        static String text(int code) {
            return Integer.toBinaryString(code).substring(1);
        }

        static int code(String bits) {
            return Integer.parseInt("1" + bits, 2);
        }

        void sort() {
            words.sort(Comparator.comparingInt(Model::code));
        }

        int add(int code) {
            if (code < 2 || code > 127) {
                return -1;
            }
            String word = text(code);
            if (!words.contains(word)) {
                if (words.size() == 6) {
                    return -2;
                }
                words.add(word);
                sort();
            }
            return words.indexOf(word);
        }

        int remove(int code) {
            if (code < 2 || !words.remove(text(code))) {
                return NONE;
            }
            return words.size();
        }

        int reverse() {
            words.replaceAll(w -> new StringBuilder(w).reverse().toString());
            sort();
            return words.size();
        }

        int word(int k) {
            return k >= 0 && k < words.size() ? code(words.get(k)) : NONE;
        }

        int bit(int bit) {
            if (bit < 0 || bit > 1) {
                return -1;
            }
            if (row.length() == 16) {
                return -2;
            }
            row += bit;
            return row.length();
        }

        int append(int k) {
            if (k < 0 || k >= words.size()) {
                return NONE;
            }
            if (row.length() + words.get(k).length() > 16) {
                return -2;
            }
            row += words.get(k);
            return row.length();
        }

        int clear() {
            int before = row.length();
            row = "";
            return before;
        }

        /** All readings of a row; they come in their order, since lesser numbers are tried first. */
        List<int[]> list(String bits) {
            List<int[]> all = new ArrayList<>();
            list(bits, new ArrayList<>(), all);
            return all;
        }

        private void list(String rest, List<Integer> begun, List<int[]> all) {
            if (rest.isEmpty()) {
                all.add(begun.stream().mapToInt(Integer::intValue).toArray());
                return;
            }
            for (int k = 0; k < words.size(); k++) {
                if (rest.startsWith(words.get(k))) {
                    begun.add(k);
                    list(rest.substring(words.get(k).length()), begun, all);
                    begun.remove(begun.size() - 1);
                }
            }
        }

        int read(List<int[]> all, int n, int i) {
            if (n < 0 || n >= all.size() || i < 0 || i >= all.get(n).length) {
                return NONE;
            }
            return all.get(n)[i];
        }

        int fewest(List<int[]> all) {
            return all.stream().mapToInt(r -> r.length).min().orElse(NONE);
        }

        /** How many rows of n bits have at least so many readings. */
        int rows(int n, int least) {
            int found = 0;
            for (int code = 1 << n; code < 2 << n; code++) {
                found += list(text(code)).size() >= least ? 1 : 0;
            }
            return found;
        }

        int total(int n) {
            int sum = 0;
            for (int code = 1 << n; code < 2 << n; code++) {
                sum += list(text(code)).size();
            }
            return sum;
        }

        /**
         * Two readers take the same bits, one at a time. A state is what each has yet to see of its word,
         * and whether the two have taken different words. There are finitely many, so a level that adds
         * none to those seen ends the search.
         */
        int shortest() {
            Set<String> seen = new HashSet<>();
            Set<String> level = new HashSet<>();
            level.add("//same");
            for (int bits = 0; !level.isEmpty(); bits++) {
                if (level.contains("//other")) {
                    return bits;
                }
                Set<String> next = new HashSet<>();
                for (String state : level) {
                    step(state.split("/", -1), next);
                }
                next.removeAll(seen);
                seen.addAll(next);
                level = next;
            }
            return NONE;
        }

        private void step(String[] state, Set<String> next) {
            for (String a : state[0].isEmpty() ? words : List.of(state[0])) {
                for (String b : state[1].isEmpty() ? words : List.of(state[1])) {
                    boolean start = state[0].isEmpty() && state[1].isEmpty();
                    boolean same = state[2].equals("same") && (!start || a.equals(b));
                    if (a.charAt(0) == b.charAt(0)) {
                        next.add(a.substring(1) + "/" + b.substring(1) + "/" + (same ? "same" : "other"));
                    }
                }
            }
        }

        int free() {
            for (String a : words) {
                for (String b : words) {
                    if (!a.equals(b) && b.startsWith(a)) {
                        return 0;
                    }
                }
            }
            return 1;
        }

        int weight() {
            double sum = 0;
            for (String w : words) {
                sum += Math.pow(0.5, w.length());
            }
            return Double.compare(sum, 1.0);
        }
    }

    private static void due(int run, String call, Model m, int got, int want) {
        if (got != want) {
            wrong++;
            if (wrong < 50) {
                System.out.println("run " + run + ", words " + m.words + ", row '" + m.row + "': " + call
                        + " answered " + got + ", due is " + want);
            }
        }
    }

    /** Short words and words of few bits set are picked more often: they make doubtful rows. */
    private static int pickCode() {
        switch (pick(8)) {
            case 0:
                return pick(140) - 5;
            case 1:
            case 2:
                return 2 + pick(6);
            case 3:
                return 1 << (1 + pick(6));
            default:
                return 2 + pick(126);
        }
    }

    private static int change(int run, WordCodes x, Model m) {
        int code = pickCode();
        int k = pick(9) - 1;
        int bit = pick(20) == 0 ? pick(6) - 3 : pick(2);
        switch (pick(10)) {
            case 0:
            case 1:
                due(run, "add(" + code + ")", m, x.add(code), m.add(code));
                return 1;
            case 2:
                int old = m.words.isEmpty() || pick(3) == 0 ? code : m.word(pick(m.words.size()));
                due(run, "remove(" + old + ")", m, x.remove(old), m.remove(old));
                return 1;
            case 3:
                due(run, "reverse()", m, x.reverse(), m.reverse());
                return 1;
            case 4:
                if (pick(3) == 0) {
                    due(run, "clear()", m, x.clear(), m.clear());
                    return 1;
                }
                return 0;
            case 5:
            case 6:
                due(run, "bit(" + bit + ")", m, x.bit(bit), m.bit(bit));
                return 1;
            default:
                due(run, "append(" + k + ")", m, x.append(k), m.append(k));
                return 1;
        }
    }

    private static int askSet(int run, WordCodes x, Model m) {
        due(run, "words()", m, x.words(), m.words.size());
        for (int k = -1; k <= 6; k++) {
            due(run, "word(" + k + ")", m, x.word(k), m.word(k));
        }
        int shortest = m.shortest();
        due(run, "shortest()", m, x.shortest(), shortest);
        due(run, "isClear()", m, x.isClear(), shortest == NONE ? 1 : 0);
        due(run, "free()", m, x.free(), m.free());
        due(run, "weight()", m, x.weight(), m.weight());
        return 13;
    }

    private static int askRow(int run, WordCodes x, Model m) {
        due(run, "row()", m, x.row(), Model.code(m.row));
        List<int[]> all = m.list(m.row);
        due(run, "readings()", m, x.readings(), all.size());
        due(run, "fewest()", m, x.fewest(), m.fewest(all));
        for (int time = 0; time < 6; time++) {
            int n = pick(all.size() + 2) - (pick(9) == 0 ? 1 : 0);
            int i = pick(2) == 0 ? pick(4) : pick(18) - 1;
            due(run, "read(" + n + ", " + i + ")", m, x.read(n, i), m.read(all, n, i));
        }
        return 9;
    }

    private static int askCounts(int run, WordCodes x, Model m) {
        int n = pick(11);
        // A set with many readings is asked for short rows alone, to keep the model quick.
        if (x.total(n) > MANY) {
            n = pick(6);
        }
        due(run, "messages(" + n + ")", m, x.messages(n), m.rows(n, 1));
        due(run, "doubtful(" + n + ")", m, x.doubtful(n), m.rows(n, 2));
        due(run, "total(" + n + ")", m, x.total(n), m.total(n));
        return 4;
    }

    private static void run(int run) {
        WordCodes x = new WordCodes();
        Model m = new Model();
        int calls = 0;
        while (calls < CALLS - 40) {
            calls += change(run, x, m);
            if (pick(6) == 0) {
                calls += askSet(run, x, m);
            }
            if (pick(3) == 0) {
                calls += askRow(run, x, m);
            }
            if (pick(12) == 0) {
                calls += askCounts(run, x, m);
            }
        }
    }

    /** Every set of one, two or three words of at most three bits. */
    private static void smallSets() {
        for (int a = 2; a < 16; a++) {
            for (int b = a; b < 16; b++) {
                for (int c = b; c < 16; c++) {
                    WordCodes x = new WordCodes();
                    Model m = new Model();
                    for (int code : new int[] {c, a, b}) {
                        due(0, "add(" + code + ")", m, x.add(code), m.add(code));
                    }
                    askSet(0, x, m);
                    for (int n = 0; n <= 6; n++) {
                        due(0, "messages(" + n + ")", m, x.messages(n), m.rows(n, 1));
                        due(0, "doubtful(" + n + ")", m, x.doubtful(n), m.rows(n, 2));
                        due(0, "total(" + n + ")", m, x.total(n), m.total(n));
                    }
                }
            }
        }
    }

    /** Sets whose shortest doubtful row is far longer than the row that is kept can be. */
    private static void farMeetings() {
        String[] sets = {"001100 01 01000 100011 110001 000110", "001100 100011 111001 0110 11001 011011",
            "01110 111001 110111 100011 001110 00", "11 10011 010100 011110 101010 111101",
            "0110 10110 11001 11010 001101 011011", "00 01001 01010 001101 101000 110101"};
        int[] bits = {47, 39, 38, 35, 33, 23};
        for (int s = 0; s < sets.length; s++) {
            WordCodes x = new WordCodes();
            Model m = new Model();
            for (String word : sets[s].split(" ")) {
                int code = Model.code(word);
                due(0, "add(" + code + ")", m, x.add(code), m.add(code));
            }
            due(0, "shortest() of the model", m, m.shortest(), bits[s]);
            askSet(0, x, m);
            due(0, "reverse()", m, x.reverse(), m.reverse());
            askSet(0, x, m);
        }
    }

    public static void main(String[] args) {
        smallSets();
        farMeetings();
        for (int run = 1; run <= RUNS; run++) {
            run(run);
        }
        System.out.println(wrong == 0 ? "all answers are as due" : wrong + " answers are not as due");
        if (wrong != 0) {
            System.exit(1);
        }
    }
}
