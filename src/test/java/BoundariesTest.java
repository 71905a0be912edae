import java.util.ArrayList;
import java.util.Arrays;
import java.util.LinkedHashMap;
import java.util.List;
import java.util.Map;
import java.util.function.IntPredicate;
import java.util.function.Supplier;
import java.util.function.ToIntFunction;

/** Each sentence of the document that names a boundary case has a test of its own here, under that sentence. */
public final class BoundariesTest {
    private static final int BAD_ARG = -1;
    private static final int FULL = -2;
    private static final int NONE = -4;
    private static final int CALLS = 512;
    private static final String[] NO_WORDS = {};
    private static final String[] SIX_WORDS = {"0", "1", "01", "110", "00110", "111111"};
    private static final String[] SIX_FREE_WORDS = {"0", "10", "110", "1110", "11110", "11111"};
    private static final String SIXTEEN_BITS = "0110100110010110";

    private static final Map<String, Runnable> TESTS = new LinkedHashMap<>();
    private static final List<String> FAULTS = new ArrayList<>();

    // ---- helpers

    private static void due(String what, int got, int want) {
        if (got != want) {
            FAULTS.add(what + " answered " + got + ", due is " + want);
        }
    }

    private static int code(String bits) {
        return Integer.parseInt("1" + bits, 2);
    }

    private static WordCodes set(String... words) {
        WordCodes x = new WordCodes();
        for (String word : words) {
            x.add(code(word));
        }
        return x;
    }

    private static WordCodes withRow(WordCodes x, String bits) {
        x.clear();
        for (char c : bits.toCharArray()) {
            x.bit(c - '0');
        }
        return x;
    }

    private static String zeros(int length) {
        return "0".repeat(length);
    }

    private static void dueSet(String what, WordCodes x, String... words) {
        due(what + ": words()", x.words(), words.length);
        for (int k = 0; k < words.length; k++) {
            due(what + ": word(" + k + ")", x.word(k), code(words[k]));
        }
        due(what + ": word behind the last", x.word(words.length), NONE);
    }

    /** The arguments near a range, those that share their low bits with one in it, and the outermost. */
    private static int[] around(int least, int greatest) {
        List<Integer> all = new ArrayList<>();
        for (int v = least - 150; v <= greatest + 150; v++) {
            all.add(v);
        }
        for (int shift = 5; shift < 32; shift++) {
            for (int v : new int[] {least, least + 1, greatest}) {
                all.add(v + (1 << shift));
                all.add(v - (1 << shift));
            }
        }
        for (int v : new int[] {Integer.MIN_VALUE, Integer.MIN_VALUE + 1, Integer.MAX_VALUE - 1, Integer.MAX_VALUE}) {
            all.add(v);
        }
        return all.stream().mapToInt(Integer::intValue).distinct().toArray();
    }

    private static int[] outside(int least, int greatest) {
        IntPredicate out = v -> v < least || v > greatest;
        return Arrays.stream(around(least, greatest)).filter(out).toArray();
    }

    /** Sets and rows that are empty, full, and neither. */
    private static List<Supplier<WordCodes>> states() {
        return List.of(
                () -> new WordCodes(),
                () -> set(SIX_WORDS),
                () -> withRow(new WordCodes(), SIXTEEN_BITS),
                () -> withRow(set(SIX_WORDS), SIXTEEN_BITS),
                () -> withRow(set(SIX_FREE_WORDS), SIXTEEN_BITS.substring(1)),
                () -> withRow(set("0", "00", "101"), "00101"),
                () -> withRow(set("10", "11"), "101"));
    }

    /** What can be asked without a change. */
    private static String seen(WordCodes x) {
        StringBuilder all = new StringBuilder("words " + x.words() + ":");
        for (int k = 0; k < 6; k++) {
            all.append(' ').append(x.word(k));
        }
        all.append(", row ").append(x.row()).append(", readings ").append(x.readings());
        all.append(", fewest ").append(x.fewest()).append(", total(16) ").append(x.total(16));
        all.append(", shortest ").append(x.shortest()).append(", weight ").append(x.weight());
        return all.toString();
    }

    /** What is left in an object can also come out when it is used further. */
    private static String seenLater(WordCodes x) {
        StringBuilder all = new StringBuilder(seen(x));
        all.append(", remove ").append(x.remove(x.word(0))).append(", add ").append(x.add(code("0101")));
        all.append(", bit ").append(x.bit(1)).append(", append ").append(x.append(0));
        all.append(", then ").append(seen(x)).append(", clear ").append(x.clear());
        return all.toString();
    }

    private static void dueRefused(String what, Supplier<WordCodes> state, ToIntFunction<WordCodes> call, int want) {
        WordCodes x = state.get();
        due(what, call.applyAsInt(x), want);
        String after = seenLater(x);
        String without = seenLater(state.get());
        if (!after.equals(without)) {
            FAULTS.add(what + " changed something: " + after + "; due is " + without);
        }
    }

    private static void test(String sentence, Runnable body) {
        if (TESTS.put(sentence, body) != null) {
            throw new IllegalStateException("two tests for: " + sentence);
        }
    }

    // ---- What it is, Terms

    private static final class Step {
        final String name;
        final ToIntFunction<WordCodes> call;
        final int want;

        Step(String name, int want, ToIntFunction<WordCodes> call) {
            this.name = name;
            this.call = call;
            this.want = want;
        }
    }

    /** A round of every call, at whose end the object is as it was made. */
    private static List<Step> round() {
        return List.of(
                new Step("add(7)", 0, x -> x.add(7)), new Step("add(2)", 0, x -> x.add(2)),
                new Step("add(3)", 1, x -> x.add(3)), new Step("bit(1)", 1, x -> x.bit(1)),
                new Step("append(2)", 3, x -> x.append(2)), new Step("row()", 15, x -> x.row()),
                new Step("readings()", 3, x -> x.readings()), new Step("read(2, 0)", 2, x -> x.read(2, 0)),
                new Step("fewest()", 2, x -> x.fewest()), new Step("messages(10)", 1024, x -> x.messages(10)),
                new Step("doubtful(2)", 1, x -> x.doubtful(2)), new Step("total(3)", 12, x -> x.total(3)),
                new Step("isClear()", 0, x -> x.isClear()), new Step("shortest()", 2, x -> x.shortest()),
                new Step("free()", 0, x -> x.free()), new Step("weight()", 1, x -> x.weight()),
                new Step("reverse()", 3, x -> x.reverse()), new Step("word(2)", 7, x -> x.word(2)),
                new Step("words()", 3, x -> x.words()), new Step("remove(3)", 2, x -> x.remove(3)),
                new Step("remove(2)", 1, x -> x.remove(2)), new Step("remove(7)", 0, x -> x.remove(7)),
                new Step("clear()", 3, x -> x.clear()));
    }

    private static boolean asksOnly(Step step) {
        return !step.name.matches("(add|remove|reverse|bit|append|clear)\\(.*");
    }

    private static void whatItIs() {
        test("An object is used for at most 512 calls after it has been made", () -> {
            List<Step> round = round();
            // Refused calls first, ever more of them, so that each call of the round is once the 512th.
            for (int refused = 0; refused < round.size(); refused++) {
                WordCodes x = new WordCodes();
                for (int call = 0; call < CALLS; call++) {
                    if (call < refused) {
                        due("call " + (call + 1) + " add(1)", x.add(1), BAD_ARG);
                    } else {
                        Step step = round.get((call - refused) % round.size());
                        due("call " + (call + 1) + " " + step.name, step.call.applyAsInt(x), step.want);
                    }
                }
            }
        });
        test("512 calls: every one the same, or two in turn", () -> {
            WordCodes added = new WordCodes();
            WordCodes byBits = new WordCodes();
            WordCodes byWords = set("011");
            WordCodes turned = set("0", "001");
            for (int pair = 0; pair < CALLS / 2 - 2; pair++) {
                due("add(9)", added.add(9), 0);
                due("remove(9)", added.remove(9), 0);
                due("bit(1)", byBits.bit(1), 1);
                due("clear() of a bit", byBits.clear(), 1);
                due("append(0)", byWords.append(0), 3);
                due("clear() of a word", byWords.clear(), 3);
                due("reverse()", turned.reverse(), 2);
                due("free()", turned.free(), pair % 2 == 0 ? 1 : 0);
            }
            for (Step step : round()) {
                WordCodes x = withRow(set("0", "1", "11"), "111");
                int first = step.call.applyAsInt(x);
                for (int call = 7 + 1; call < CALLS && asksOnly(step); call++) {
                    due("call " + (call + 1) + " " + step.name, step.call.applyAsInt(x), first);
                }
            }
        });
        test("512 calls: a set and a row that are kept from the first calls to the last", () -> {
            WordCodes x = withRow(set(SIX_WORDS), SIXTEEN_BITS);
            for (int call = 1 + 6 + 16; call < CALLS - 1; call++) {
                due("call " + (call + 1) + " bit(0)", x.bit(0), FULL);
            }
            due("call 512 row()", x.row(), code(SIXTEEN_BITS));
        });
    }

    private static void termsOfWords() {
        test("WORDS are rows of 1 to 6 bits: each of the 126 can be in the set", () -> {
            for (int code = 2; code <= 127; code++) {
                WordCodes x = new WordCodes();
                due("add(" + code + ")", x.add(code), 0);
                due("word(0)", x.word(0), code);
                due("words()", x.words(), 1);
                int bits = 31 - Integer.numberOfLeadingZeros(code);
                due("append(0) of " + code, x.append(0), bits);
                due("row() of " + code, x.row(), code);
                due("fewest() of " + code, x.fewest(), 1);
                due("remove(" + code + ")", x.remove(code), 0);
            }
        });
        test("WORDS are rows of 1 to 6 bits: the empty row is none", () -> {
            WordCodes x = new WordCodes();
            due("add(1)", x.add(1), BAD_ARG);
            due("words()", x.words(), 0);
        });
        test("WORDS are rows of 1 to 6 bits: a row of 7 bits is none", () -> {
            WordCodes x = new WordCodes();
            due("add(128)", x.add(128), BAD_ARG);
            due("add(255)", x.add(255), BAD_ARG);
            due("words()", x.words(), 0);
        });
        test("The CODE is 1 for the empty row", () -> {
            due("row() of a new object", new WordCodes().row(), 1);
            WordCodes x = withRow(set("0"), "0");
            x.clear();
            due("row() after clear()", x.row(), 1);
        });
        test("The CODE is twice the code of the row without its last bit, plus that bit: zeros in front count", () -> {
            for (int length = 1; length <= 16; length++) {
                due(length + " zeros", withRow(new WordCodes(), zeros(length)).row(), 1 << length);
            }
            for (int length = 1; length <= 6; length++) {
                due("word of zeros", set(zeros(length)).word(0), 1 << length);
            }
            WordCodes x = set("0", "00", "000");
            due("three words of zeros", x.words(), 3);
        });
        test("There is a SET of at most 6 words", () -> {
            WordCodes x = new WordCodes();
            for (int k = 0; k < 6; k++) {
                due("word " + (k + 1), x.add(20 + k), k);
            }
            due("word 7", x.add(26), FULL);
            due("word 7, a lesser code", x.add(2), FULL);
            due("words()", x.words(), 6);
        });
        test("a SET of different words: one that comes twice is in it once", () -> {
            WordCodes x = new WordCodes();
            for (int time = 0; time < 10; time++) {
                due("add(9)", x.add(9), 0);
            }
            dueSet("one word", x, "001");
        });
        test("numbered from 0 on in the order of their codes", () -> {
            String[] words = {"0", "1", "11", "000", "11111", "000000"};
            for (int turn = 0; turn < 6; turn++) {
                WordCodes forth = new WordCodes();
                WordCodes back = new WordCodes();
                for (int k = 0; k < 6; k++) {
                    forth.add(code(words[(turn + k) % 6]));
                    back.add(code(words[(turn + 6 - k) % 6]));
                }
                dueSet("from word " + turn, forth, words);
                dueSet("back from word " + turn, back, words);
            }
        });
    }

    private static void termsOfReadings() {
        test("the empty row has one reading, without words", () -> {
            for (String[] words : new String[][] {NO_WORDS, {"0"}, SIX_WORDS}) {
                WordCodes x = set(words);
                due("readings()", x.readings(), 1);
                due("read(0, 0)", x.read(0, 0), NONE);
                due("read(1, 0)", x.read(1, 0), NONE);
                due("fewest()", x.fewest(), 0);
                due("messages(0)", x.messages(0), 1);
                due("doubtful(0)", x.doubtful(0), 0);
                due("total(0)", x.total(0), 1);
            }
        });
        test("A row of bits with a reading is a MESSAGE: one without is none", () -> {
            WordCodes x = set("01", "10");
            due("messages(1)", x.messages(1), 0);
            due("messages(2)", x.messages(2), 2);
            due("messages(3)", x.messages(3), 0);
            due("messages(4)", x.messages(4), 4);
        });
        test("one with two different readings or more is DOUBTFUL: one reading is not enough", () -> {
            WordCodes x = withRow(set("0", "01", "10"), "001");
            due("readings()", x.readings(), 1);
            due("doubtful(2)", x.doubtful(2), 0);
        });
        test("one with two different readings or more is DOUBTFUL: just two are enough", () -> {
            WordCodes x = withRow(set("0", "01", "10"), "010");
            due("readings()", x.readings(), 2);
            due("doubtful(3)", x.doubtful(3), 1);
            due("isClear()", x.isClear(), 0);
            due("shortest()", x.shortest(), 3);
        });
        test("one with two different readings or more is DOUBTFUL: one with more counts once", () -> {
            WordCodes x = withRow(set("0", "00"), "000");
            due("readings()", x.readings(), 3);
            due("doubtful(3)", x.doubtful(3), 1);
            due("messages(3)", x.messages(3), 1);
        });
        test("two different readings: the same words in another order are another reading", () -> {
            WordCodes x = withRow(set("0", "00"), "000");
            due("read(1, 0)", x.read(1, 0), 0);
            due("read(1, 1)", x.read(1, 1), 1);
            due("read(2, 0)", x.read(2, 0), 1);
            due("read(2, 1)", x.read(2, 1), 0);
            due("shortest() of 0000 and 000000", set("0000", "000000").shortest(), 10);
        });
        test("The set is CLEAR if no row of bits of any length is doubtful: a first doubtful row of 11 bits", () -> {
            WordCodes x = set("00000", "000000");
            due("doubtful(10)", x.doubtful(10), 0);
            due("isClear()", x.isClear(), 0);
            due("shortest()", x.shortest(), 11);
        });
        test("The set is CLEAR if no row of bits of any length is doubtful: a first doubtful row past 16 bits", () -> {
            due("isClear(), 23 bits", set("00", "01001", "01010", "001101", "101000", "110101").isClear(), 0);
            due("isClear(), 47 bits", set("001100", "01", "01000", "100011", "110001", "000110").isClear(), 0);
        });
    }

    private static void termsOfTheRow() {
        test("There is one row of at most 16 bits: by bits", () -> {
            WordCodes x = new WordCodes();
            for (int length = 1; length <= 16; length++) {
                due("bit(1)", x.bit(1), length);
            }
            due("bit 17", x.bit(1), FULL);
            due("row()", x.row(), (1 << 17) - 1);
            due("clear()", x.clear(), 16);
        });
        test("There is one row of at most 16 bits: by words", () -> {
            WordCodes x = set("1111");
            for (int length = 4; length <= 16; length += 4) {
                due("append(0)", x.append(0), length);
            }
            due("append(0) at 16", x.append(0), FULL);
            due("row()", x.row(), (1 << 17) - 1);
            due("clear()", x.clear(), 16);
        });
        test("There is one row that is kept: calls for the set and for other rows leave it", () -> {
            WordCodes x = withRow(set("0", "01", "10"), "01001");
            for (int n = 0; n <= 10; n++) {
                x.messages(n);
                x.doubtful(n);
                x.total(n);
            }
            x.isClear();
            x.shortest();
            x.free();
            x.weight();
            x.add(code("11"));
            x.remove(code("11"));
            x.reverse();
            due("row()", x.row(), code("01001"));
            // 0 10 01 and 01 0 01
            due("readings()", x.readings(), 2);
            due("clear()", x.clear(), 5);
        });
        test("No call ever throws", () -> {
            int[] arguments = around(0, 16);
            for (Supplier<WordCodes> state : states()) {
                for (int v : arguments) {
                    callAll(state.get(), v);
                }
            }
        });
    }

    private static void callAll(WordCodes x, int v) {
        x.add(v);
        x.bit(v);
        x.append(v);
        x.word(v);
        x.read(v, 0);
        x.read(0, v);
        x.read(v, v);
        x.messages(v);
        x.doubtful(v);
        x.total(v);
        x.remove(v);
        x.readings();
        x.fewest();
        x.isClear();
        x.shortest();
        x.free();
        x.weight();
        x.reverse();
        x.words();
        x.row();
        x.clear();
    }

    private static void termsOfRefusals() {
        test("A refused call changes nothing: add with BAD_ARG", () -> {
            for (Supplier<WordCodes> state : states()) {
                for (int v : outside(2, 127)) {
                    dueRefused("add(" + v + ")", state, x -> x.add(v), BAD_ARG);
                }
            }
        });
        test("A refused call changes nothing: add with FULL", () -> {
            Supplier<WordCodes> full = () -> withRow(set(SIX_WORDS), "0110");
            for (int v = 2; v <= 127; v++) {
                int code = v;
                if (set(SIX_WORDS).remove(code) == NONE) {
                    dueRefused("add(" + code + ")", full, x -> x.add(code), FULL);
                }
            }
        });
        test("A refused call changes nothing: add of a word that is in the set", () -> {
            for (int k = 0; k < 6; k++) {
                int number = k;
                int code = code(SIX_WORDS[k]);
                dueRefused("add(" + code + ")", () -> withRow(set(SIX_WORDS), "0110"), x -> x.add(code), number);
            }
        });
        test("A refused call changes nothing: remove with NONE", () -> {
            for (Supplier<WordCodes> state : states()) {
                for (int v : outside(2, 127)) {
                    dueRefused("remove(" + v + ")", state, x -> x.remove(v), NONE);
                }
                dueRefused("remove(99)", state, x -> x.remove(99), NONE);
            }
        });
        test("A refused call changes nothing: word with NONE", () -> {
            for (Supplier<WordCodes> state : states()) {
                for (int v : outside(0, 5)) {
                    dueRefused("word(" + v + ")", state, x -> x.word(v), NONE);
                }
            }
        });
        test("A refused call changes nothing: bit with BAD_ARG", () -> {
            for (Supplier<WordCodes> state : states()) {
                for (int v : outside(0, 1)) {
                    dueRefused("bit(" + v + ")", state, x -> x.bit(v), BAD_ARG);
                }
            }
        });
        test("A refused call changes nothing: bit with FULL", () -> {
            Supplier<WordCodes> full = () -> withRow(set(SIX_WORDS), SIXTEEN_BITS);
            dueRefused("bit(0)", full, x -> x.bit(0), FULL);
            dueRefused("bit(1)", full, x -> x.bit(1), FULL);
        });
        test("A refused call changes nothing: append with NONE", () -> {
            for (Supplier<WordCodes> state : states()) {
                for (int v : outside(0, 5)) {
                    dueRefused("append(" + v + ")", state, x -> x.append(v), NONE);
                }
            }
        });
        test("A refused call changes nothing: append with FULL", () -> {
            for (int size = 1; size <= 6; size++) {
                String word = "101101".substring(0, size);
                for (int length = 17 - size; length <= 16; length++) {
                    String row = SIXTEEN_BITS.substring(0, length);
                    dueRefused("append(0) of " + word + " at " + length, () -> withRow(set(word), row),
                            x -> x.append(0), FULL);
                }
            }
        });
        test("A refused call changes nothing: read with NONE", () -> {
            for (Supplier<WordCodes> state : states()) {
                for (int v : outside(0, 29969)) {
                    if (v < 0 || v > 29969 + 100) {
                        dueRefused("read(" + v + ", 0)", state, x -> x.read(v, 0), NONE);
                        dueRefused("read(0, " + v + ")", state, x -> x.read(0, v), NONE);
                    }
                }
            }
        });
        test("A refused call changes nothing: fewest with NONE", () ->
            dueRefused("fewest()", () -> withRow(set("0", "11"), "0010"), x -> x.fewest(), NONE));
        test("A refused call changes nothing: messages, doubtful and total with BAD_ARG", () -> {
            for (Supplier<WordCodes> state : states()) {
                for (int v : outside(0, 10)) {
                    dueRefused("messages(" + v + ")", state, x -> x.messages(v), BAD_ARG);
                    dueRefused("doubtful(" + v + ")", state, x -> x.doubtful(v), BAD_ARG);
                }
                for (int v : outside(0, 16)) {
                    dueRefused("total(" + v + ")", state, x -> x.total(v), BAD_ARG);
                }
            }
        });
        test("A refused call changes nothing: shortest with NONE", () ->
            dueRefused("shortest()", () -> withRow(set("0", "01", "11"), "0011"), x -> x.shortest(), NONE));
    }

    // ---- Promises 1 to 6: the set

    private static void newObject() {
        test("1: The set is empty", () -> {
            WordCodes x = new WordCodes();
            dueSet("new", x);
            for (int code = 2; code <= 127; code++) {
                due("remove(" + code + ")", x.remove(code), NONE);
            }
        });
        test("1: the row is empty", () -> {
            due("row()", new WordCodes().row(), 1);
            due("readings()", new WordCodes().readings(), 1);
            due("clear()", new WordCodes().clear(), 0);
            due("bit(0)", new WordCodes().bit(0), 1);
        });
        test("1: an object has nothing of another one", () -> {
            WordCodes a = withRow(set(SIX_WORDS), SIXTEEN_BITS);
            WordCodes b = new WordCodes();
            due("b.add(127)", b.add(127), 0);
            due("b.bit(0)", b.bit(0), 1);
            dueSet("a", a, SIX_WORDS);
            due("a.row()", a.row(), code(SIXTEEN_BITS));
            dueSet("b", b, "111111");
            due("b.row()", b.row(), 2);
        });
    }

    private static void add() {
        test("2: code not 2 to 127 answers BAD_ARG: too small", () -> {
            due("add(2)", new WordCodes().add(2), 0);
            for (int v : new int[] {1, 0, -1, -2, -127, Integer.MIN_VALUE}) {
                due("add(" + v + ")", new WordCodes().add(v), BAD_ARG);
            }
        });
        test("2: code not 2 to 127 answers BAD_ARG: too large", () -> {
            due("add(127)", new WordCodes().add(127), 0);
            for (int v : new int[] {128, 129, 255, 256, 258, 65538, Integer.MAX_VALUE}) {
                due("add(" + v + ")", new WordCodes().add(v), BAD_ARG);
            }
        });
        test("2: it is in the set already answers its number", () -> {
            WordCodes x = set("1", "00", "111");
            due("add of word 0", x.add(code("1")), 0);
            due("add of word 1", x.add(code("00")), 1);
            due("add of word 2", x.add(code("111")), 2);
            due("words()", x.words(), 3);
        });
        test("2: there are 6 words answers FULL", () -> {
            WordCodes x = set("0", "1", "01", "110", "00110");
            due("the sixth", x.add(code("111111")), 5);
            due("the seventh", x.add(code("111110")), FULL);
            dueSet("full", x, SIX_WORDS);
        });
        test("2: in this order: a wrong code in a full set answers BAD_ARG, not FULL", () -> {
            for (int v : outside(2, 127)) {
                due("add(" + v + ")", set(SIX_WORDS).add(v), BAD_ARG);
            }
        });
        test("2: in this order: a word of a full set answers its number, not FULL", () -> {
            WordCodes x = set(SIX_WORDS);
            for (int k = 0; k < 6; k++) {
                due("add of " + SIX_WORDS[k], x.add(code(SIX_WORDS[k])), k);
            }
        });
        test("2: Otherwise its number: as the first, between others, as the last", () -> {
            due("the only one", set().add(code("01")), 0);
            due("the first", set("01", "10").add(code("1")), 0);
            due("between", set("00", "10").add(code("01")), 1);
            due("the last", set("00", "10").add(code("11")), 2);
            due("the first of six", set("1", "01", "110", "00110", "111111").add(code("0")), 0);
            due("the last of six", set("0", "1", "01", "110", "00110").add(code("111111")), 5);
        });
    }

    private static void remove() {
        test("3: NONE if it is not in it: from the empty set", () -> {
            for (int v : around(2, 127)) {
                due("remove(" + v + ")", new WordCodes().remove(v), NONE);
            }
        });
        test("3: NONE if it is not in it: another word", () -> {
            WordCodes x = set("0", "000000");
            due("remove of 00", x.remove(code("00")), NONE);
            due("remove of 1", x.remove(code("1")), NONE);
            due("remove of 111111", x.remove(code("111111")), NONE);
            dueSet("after it", x, "0", "000000");
        });
        test("3: NONE if it is not in it: no code of a word, the code of an empty row among them", () -> {
            for (int v : outside(2, 127)) {
                due("remove(" + v + ")", set(SIX_WORDS).remove(v), NONE);
            }
        });
        test("3: NONE if it is not in it: a word that has gone", () -> {
            for (int k = 0; k < 6; k++) {
                WordCodes x = set(SIX_WORDS);
                due("remove of " + SIX_WORDS[k], x.remove(code(SIX_WORDS[k])), 5);
                due("again", x.remove(code(SIX_WORDS[k])), NONE);
                due("words()", x.words(), 5);
            }
        });
        test("3: NONE if it is not in it: a word as it was before reverse", () -> {
            WordCodes x = set("001");
            x.reverse();
            due("remove of 001", x.remove(code("001")), NONE);
            due("remove of 100", x.remove(code("100")), 0);
        });
        test("3: Otherwise how many words are left: from 5 to 0", () -> {
            WordCodes forth = set(SIX_WORDS);
            WordCodes back = set(SIX_WORDS);
            for (int k = 0; k < 6; k++) {
                due("the first of " + (6 - k), forth.remove(code(SIX_WORDS[k])), 5 - k);
                due("the last of " + (6 - k), back.remove(code(SIX_WORDS[5 - k])), 5 - k);
            }
            dueSet("empty", forth);
            dueSet("empty from the end", back);
        });
        test("3: goes from the set: those behind it move up by one number", () -> {
            WordCodes x = set(SIX_WORDS);
            x.remove(code("01"));
            dueSet("without 01", x, "0", "1", "110", "00110", "111111");
            x.remove(code("0"));
            dueSet("without 0", x, "1", "110", "00110", "111111");
            x.remove(code("111111"));
            dueSet("without 111111", x, "1", "110", "00110");
            due("append(0) takes the moved word", x.append(1), 3);
            due("row()", x.row(), code("110"));
        });
        test("3: goes from the set: a full set has room for one again", () -> {
            WordCodes x = set(SIX_WORDS);
            x.remove(code("110"));
            due("one more", x.add(code("10")), 3);
            due("and one too many", x.add(code("110")), FULL);
            dueSet("full again", x, "0", "1", "01", "10", "00110", "111111");
        });
        test("3: an emptied set is as a new one", () -> {
            WordCodes x = set("0", "00");
            x.remove(code("0"));
            x.remove(code("00"));
            due("isClear()", x.isClear(), 1);
            due("shortest()", x.shortest(), NONE);
            due("free()", x.free(), 1);
            due("weight()", x.weight(), -1);
            due("messages(1)", x.messages(1), 0);
            due("total(2)", x.total(2), 0);
            due("add(127)", x.add(127), 0);
        });
    }

    private static void reverse() {
        test("4: Answers how many words there are: none", () -> {
            WordCodes x = new WordCodes();
            due("reverse()", x.reverse(), 0);
            dueSet("empty", x);
        });
        test("4: Answers how many words there are: one to six", () -> {
            WordCodes x = new WordCodes();
            for (int k = 0; k < 6; k++) {
                x.add(code(SIX_WORDS[k]));
                due("reverse()", x.reverse(), k + 1);
                due("words()", x.words(), k + 1);
                due("reverse() back", x.reverse(), k + 1);
            }
            dueSet("turned twice", x, SIX_WORDS);
        });
        test("4: its last bit becomes the first one, and so on: each word of 1 to 6 bits", () -> {
            for (int code = 2; code <= 127; code++) {
                String bits = Integer.toBinaryString(code).substring(1);
                String turned = new StringBuilder(bits).reverse().toString();
                WordCodes x = set(bits);
                due("reverse()", x.reverse(), 1);
                dueSet(bits + " turned", x, turned);
            }
        });
        test("4: two words that are each other turned round stay two", () -> {
            WordCodes x = set("01", "10", "001", "100", "001011", "110100");
            due("reverse()", x.reverse(), 6);
            dueSet("turned", x, "01", "10", "001", "100", "001011", "110100");
        });
        test("4: the turned words are numbered in the order of their codes", () -> {
            WordCodes x = set("0001", "0010", "0100", "1000", "11", "01");
            due("reverse()", x.reverse(), 6);
            dueSet("turned", x, "10", "11", "0001", "0010", "0100", "1000");
            WordCodes y = set("011", "101", "110", "001");
            y.reverse();
            dueSet("turned", y, "011", "100", "101", "110");
        });
        test("4: Every word of the set is turned round, and the row is not", () -> {
            WordCodes x = withRow(set("01"), "0101");
            due("readings() before", x.readings(), 1);
            due("reverse()", x.reverse(), 1);
            due("row()", x.row(), code("0101"));
            due("readings() after", x.readings(), 0);
        });
    }

    private static void wordAndWords() {
        test("5: NONE if there is none: in the empty set", () -> {
            for (int v : around(0, 5)) {
                due("word(" + v + ")", new WordCodes().word(v), NONE);
            }
        });
        test("5: NONE if there is none: k below 0", () -> {
            for (int v : new int[] {-1, -2, -6, -256, Integer.MIN_VALUE, Integer.MIN_VALUE + 1}) {
                due("word(" + v + ")", set(SIX_WORDS).word(v), NONE);
            }
        });
        test("5: NONE if there is none: k at the number of words and above", () -> {
            WordCodes x = new WordCodes();
            for (int k = 0; k < 6; k++) {
                x.add(code(SIX_WORDS[k]));
                due("word(" + k + ")", x.word(k), code(SIX_WORDS[k]));
                due("word(" + (k + 1) + ") of " + (k + 1), x.word(k + 1), NONE);
            }
            for (int v : new int[] {7, 16, 256, 65536, 1 << 30, Integer.MAX_VALUE}) {
                due("word(" + v + ")", x.word(v), NONE);
            }
        });
        test("5: NONE if there is none: a number that was in use", () -> {
            WordCodes x = set(SIX_WORDS);
            for (int left = 5; left >= 0; left--) {
                x.remove(code(SIX_WORDS[left]));
                due("word(" + left + ")", x.word(left), NONE);
            }
        });
        test("6: How many words the set has: from 0 to 6 and back", () -> {
            WordCodes x = new WordCodes();
            due("words()", x.words(), 0);
            for (int k = 0; k < 6; k++) {
                x.add(code(SIX_WORDS[k]));
                due("words()", x.words(), k + 1);
            }
            x.add(code("1010"));
            due("words() after a seventh", x.words(), 6);
            for (int k = 0; k < 6; k++) {
                x.remove(code(SIX_WORDS[k]));
                due("words()", x.words(), 5 - k);
            }
            x.remove(code("0"));
            due("words() after remove from the empty set", x.words(), 0);
        });
    }

    // ---- Promises 7 to 10: the row

    private static void bit() {
        test("7: bit not 0 or 1 answers BAD_ARG", () -> {
            for (int v : outside(0, 1)) {
                due("bit(" + v + ")", new WordCodes().bit(v), BAD_ARG);
            }
            due("bit(0)", new WordCodes().bit(0), 1);
            due("bit(1)", new WordCodes().bit(1), 1);
        });
        test("7: the row has 16 bits answers FULL", () -> {
            due("the sixteenth", withRow(new WordCodes(), zeros(15)).bit(1), 16);
            due("bit(0)", withRow(new WordCodes(), zeros(16)).bit(0), FULL);
            due("bit(1)", withRow(new WordCodes(), zeros(16)).bit(1), FULL);
        });
        test("7: in this order: a wrong bit at a full row answers BAD_ARG, not FULL", () -> {
            for (int v : outside(0, 1)) {
                due("bit(" + v + ")", withRow(new WordCodes(), zeros(16)).bit(v), BAD_ARG);
            }
        });
        test("7: Otherwise its length: from 1 to 16, and the bit is at the end", () -> {
            WordCodes x = new WordCodes();
            for (int length = 1; length <= 16; length++) {
                due("bit " + length, x.bit(SIXTEEN_BITS.charAt(length - 1) - '0'), length);
                due("row()", x.row(), code(SIXTEEN_BITS.substring(0, length)));
            }
        });
    }

    private static void append() {
        test("8: there is no word k answers NONE: in the empty set", () -> {
            for (int v : around(0, 5)) {
                due("append(" + v + ")", new WordCodes().append(v), NONE);
            }
        });
        test("8: there is no word k answers NONE: k below 0, k at the number of words and above", () -> {
            for (int count = 1; count <= 6; count++) {
                String[] words = Arrays.copyOf(SIX_WORDS, count);
                for (int v : outside(0, count - 1)) {
                    due("append(" + v + ") of " + count, set(words).append(v), NONE);
                }
                int last = SIX_WORDS[count - 1].length();
                due("append of the last of " + count, set(words).append(count - 1), last);
            }
        });
        test("8: there is no word k answers NONE: a number that was in use", () -> {
            WordCodes x = set("0", "11");
            x.remove(code("0"));
            due("append(1)", x.append(1), NONE);
            due("row()", x.row(), 1);
        });
        test("8: the row would have more than 16 bits answers FULL: at each length, with each size", () -> {
            for (int size = 1; size <= 6; size++) {
                for (int length = 0; length <= 16; length++) {
                    String word = "110101".substring(0, size);
                    String row = SIXTEEN_BITS.substring(0, length);
                    WordCodes x = withRow(set(word), row);
                    boolean fits = length + size <= 16;
                    due("append(0) of " + word + " at " + length, x.append(0), fits ? length + size : FULL);
                    due("row()", x.row(), code(fits ? row + word : row));
                }
            }
        });
        test("8: in this order: no word k at a full row answers NONE, not FULL", () -> {
            for (int v : around(0, 5)) {
                due("append(" + v + "), empty set", withRow(set(), SIXTEEN_BITS).append(v), NONE);
            }
            for (int v : outside(0, 5)) {
                due("append(" + v + ")", withRow(set(SIX_WORDS), SIXTEEN_BITS).append(v), NONE);
            }
            for (int k = 0; k < 6; k++) {
                due("append(" + k + ")", withRow(set(SIX_WORDS), SIXTEEN_BITS).append(k), FULL);
            }
        });
        test("8: a word that does not fit leaves room for one that does", () -> {
            WordCodes x = withRow(set("0", "11", "101101"), zeros(13));
            due("6 bits", x.append(2), FULL);
            due("2 bits", x.append(1), 15);
            due("2 bits again", x.append(1), FULL);
            due("1 bit", x.append(0), 16);
            due("row()", x.row(), code(zeros(13) + "110"));
        });
    }

    private static void clearAndRow() {
        test("9: answers its length before: 0 of an empty row", () -> {
            due("new", new WordCodes().clear(), 0);
            WordCodes x = withRow(new WordCodes(), "01");
            x.clear();
            due("cleared twice", x.clear(), 0);
        });
        test("9: answers its length before: from 1 to 16, zeros too", () -> {
            for (int length = 1; length <= 16; length++) {
                due("clear() of zeros", withRow(new WordCodes(), zeros(length)).clear(), length);
                due("clear()", withRow(set("0"), SIXTEEN_BITS.substring(0, length)).clear(), length);
            }
        });
        test("9: The row becomes empty: a full one has room for 16 bits again", () -> {
            WordCodes x = withRow(set("0"), SIXTEEN_BITS);
            due("clear()", x.clear(), 16);
            due("row()", x.row(), 1);
            due("readings()", x.readings(), 1);
            for (int length = 1; length <= 16; length++) {
                due("bit(1)", x.bit(1), length);
            }
            due("bit 17", x.bit(1), FULL);
        });
        test("9: The row becomes empty, and the set stays", () -> {
            WordCodes x = withRow(set(SIX_WORDS), SIXTEEN_BITS);
            x.clear();
            dueSet("after clear()", x, SIX_WORDS);
        });
        test("10: The code of the row: the empty one, the least and the greatest of 16 bits", () -> {
            due("empty", new WordCodes().row(), 1);
            due("16 zeros", withRow(new WordCodes(), zeros(16)).row(), 65536);
            due("16 ones", withRow(new WordCodes(), "1".repeat(16)).row(), 131071);
        });
    }

    // ---- Promises 11 to 13: readings of the row

    private static void readings() {
        test("11: How many readings the row has: none with the empty set", () -> {
            for (int length = 1; length <= 16; length++) {
                due(length + " bits", withRow(new WordCodes(), zeros(length)).readings(), 0);
            }
        });
        test("11: How many readings the row has: none if the last word would stand over its end", () -> {
            due("00 by 000", withRow(set("000"), "00").readings(), 0);
            due("16 zeros by 000000", withRow(set("000000"), zeros(16)).readings(), 0);
            due("0 by 000000", withRow(set("000000"), "0").readings(), 0);
        });
        test("11: How many readings the row has: none if a bit at its end or its start is left over", () -> {
            due("at its end", withRow(set("01"), "010").readings(), 0);
            due("at its start", withRow(set("01"), "001").readings(), 0);
        });
        test("11: How many readings the row has: the most that 16 bits can have", () -> {
            WordCodes x = set("0", "00", "000", "0000", "00000", "000000");
            due("16 zeros", withRow(x, zeros(16)).readings(), 29970);
            due("16 ones", withRow(x, "1".repeat(16)).readings(), 0);
        });
        test("11: How many readings the row has: it follows the set", () -> {
            WordCodes x = withRow(set("0"), "00");
            due("by 0", x.readings(), 1);
            x.add(code("00"));
            due("by 0 and 00", x.readings(), 2);
            x.remove(code("0"));
            due("by 00", x.readings(), 1);
            x.remove(code("00"));
            due("by none", x.readings(), 0);
        });
    }

    private static void read() {
        test("12: NONE if there is no such reading: n below 0", () -> {
            WordCodes x = withRow(set("0", "00"), "000");
            for (int v : new int[] {-1, -2, -3, -256, Integer.MIN_VALUE, Integer.MIN_VALUE + 1}) {
                due("read(" + v + ", 0)", x.read(v, 0), NONE);
            }
        });
        test("12: NONE if there is no such reading: n at the number of readings and above", () -> {
            WordCodes x = withRow(set("0", "00"), "000");
            due("read(2, 0), the last", x.read(2, 0), 1);
            for (int v : new int[] {3, 4, 256, 65536, 1 << 30, Integer.MAX_VALUE}) {
                due("read(" + v + ", 0)", x.read(v, 0), NONE);
            }
            WordCodes most = withRow(set("0", "00", "000", "0000", "00000", "000000"), zeros(16));
            due("read(29969, 2)", most.read(29969, 2), 3);
            due("read(29970, 2)", most.read(29970, 2), NONE);
        });
        test("12: NONE if there is no such reading: the row has none", () -> {
            due("empty set", withRow(new WordCodes(), "0").read(0, 0), NONE);
            due("a bit left over", withRow(set("0"), "01").read(0, 0), NONE);
            due("a word too long", withRow(set("00"), "0").read(0, 0), NONE);
        });
        test("12: NONE if there is no such word: i below 0", () -> {
            WordCodes x = withRow(set("0", "00"), "000");
            for (int v : new int[] {-1, -2, -256, Integer.MIN_VALUE, Integer.MIN_VALUE + 1}) {
                due("read(0, " + v + ")", x.read(0, v), NONE);
            }
        });
        test("12: NONE if there is no such word: i at the number of words and above", () -> {
            WordCodes x = withRow(set("0", "00"), "000");
            due("read(0, 2)", x.read(0, 2), 0);
            due("read(0, 3)", x.read(0, 3), NONE);
            due("read(1, 1)", x.read(1, 1), 1);
            // Asked behind a longer reading, whose words must not come out here.
            due("read(1, 2)", x.read(1, 2), NONE);
            for (int v : new int[] {4, 15, 16, 17, 256, 65536, Integer.MAX_VALUE}) {
                due("read(0, " + v + ")", x.read(0, v), NONE);
            }
        });
        test("12: NONE if there is no such word: behind word 15, the last that a row can have", () -> {
            WordCodes x = withRow(set("0", "1"), "1".repeat(16));
            due("read(0, 15)", x.read(0, 15), 1);
            due("read(0, 16)", x.read(0, 16), NONE);
            due("read(0, 17)", x.read(0, 17), NONE);
        });
        test("12: NONE if there is no such word: the reading of the empty row has none", () -> {
            for (int v : around(0, 16)) {
                due("read(0, " + v + ")", set(SIX_WORDS).read(0, v), NONE);
                due("read(0, " + v + "), empty set", new WordCodes().read(0, v), NONE);
            }
        });
        test("12: ordered by the first word in which they differ, the one with the lesser number first", () -> {
            // 1 01, then 10 1, then 101
            WordCodes x = withRow(set("101", "10", "01", "1"), "101");
            int[][] want = {{0, 1}, {2, 0}, {3}};
            for (int n = 0; n < want.length; n++) {
                for (int i = 0; i < want[n].length; i++) {
                    due("read(" + n + ", " + i + ")", x.read(n, i), want[n][i]);
                }
            }
            // They differ first behind two words that they share.
            WordCodes y = withRow(set("0", "1", "00"), "1100");
            due("read(0, 2)", y.read(0, 2), 0);
            due("read(0, 3)", y.read(0, 3), 0);
            due("read(1, 2)", y.read(1, 2), 2);
            due("read(1, 3)", y.read(1, 3), NONE);
        });
    }

    private static void fewest() {
        test("13: NONE if it has no reading", () -> {
            due("empty set", withRow(new WordCodes(), "0").fewest(), NONE);
            due("a bit left over at the end", withRow(set("0"), "01").fewest(), NONE);
            due("a bit left over at the start", withRow(set("0"), "10").fewest(), NONE);
            due("16 bits by words of 5", withRow(set("00000"), zeros(16)).fewest(), NONE);
        });
        test("13: the empty row's reading has 0 words", () -> {
            due("empty set", new WordCodes().fewest(), 0);
            due("full set", set(SIX_WORDS).fewest(), 0);
            WordCodes x = withRow(set("0"), "01");
            due("before clear()", x.fewest(), NONE);
            x.clear();
            due("after clear()", x.fewest(), 0);
        });
        test("13: the reading with the fewest words: from 1 to 16", () -> {
            for (int length = 1; length <= 16; length++) {
                due(length + " words", withRow(set("0"), zeros(length)).fewest(), length);
            }
            due("3 words for 16 bits", withRow(set("0", "00000", "000000"), zeros(16)).fewest(), 3);
            due("1 word", withRow(set("0", "000", "000000"), zeros(6)).fewest(), 1);
        });
        test("13: the reading with the fewest words: neither the first nor the last in order", () -> {
            // The first is eight times 0, the last 00000 and three times 0; 0000 0000 stands between them.
            due("8 zeros", withRow(set("0", "0000", "00000"), zeros(8)).fewest(), 2);
        });
        test("13: the reading with the fewest words: one that has just one word more is not it", () -> {
            // 0 11111 comes before 01 11 11, and 11 11 10 before 1111 10.
            due("011111", withRow(set("0", "01", "11", "11111"), "011111").fewest(), 2);
            due("111110", withRow(set("10", "11", "1111"), "111110").fewest(), 2);
        });
    }

    // ---- Promises 14 to 20: all rows, and the set as a whole

    private static void counts() {
        test("14: BAD_ARG if n is not 0 to 10", () -> {
            for (int v : outside(0, 10)) {
                due("messages(" + v + ")", set("0", "1").messages(v), BAD_ARG);
                due("messages(" + v + "), empty set", new WordCodes().messages(v), BAD_ARG);
            }
        });
        test("14: n from 0 to 10 is counted: no row, and every row", () -> {
            for (int n = 0; n <= 10; n++) {
                due("messages(" + n + "), empty set", new WordCodes().messages(n), n == 0 ? 1 : 0);
                due("messages(" + n + "), all rows", set("0", "1").messages(n), 1 << n);
                due("messages(" + n + "), 000000", set("000000").messages(n), n % 6 == 0 ? 1 : 0);
            }
        });
        test("15: BAD_ARG if n is not 0 to 10", () -> {
            for (int v : outside(0, 10)) {
                due("doubtful(" + v + ")", set("0", "00").doubtful(v), BAD_ARG);
                due("doubtful(" + v + "), empty set", new WordCodes().doubtful(v), BAD_ARG);
            }
        });
        test("15: n from 0 to 10 is counted: no row, and every row but the shortest", () -> {
            WordCodes all = set("0", "1", "00", "01", "10", "11");
            for (int n = 0; n <= 10; n++) {
                due("doubtful(" + n + "), empty set", new WordCodes().doubtful(n), 0);
                due("doubtful(" + n + "), clear set", set("0", "1").doubtful(n), 0);
                due("doubtful(" + n + "), all rows", all.doubtful(n), n < 2 ? 0 : 1 << n);
            }
            due("doubtful(9) of 0000 and 000000", set("0000", "000000").doubtful(9), 0);
            due("doubtful(10) of 0000 and 000000", set("0000", "000000").doubtful(10), 1);
        });
        test("16: BAD_ARG if n is not 0 to 16", () -> {
            for (int v : outside(0, 16)) {
                due("total(" + v + ")", set("0", "1").total(v), BAD_ARG);
                due("total(" + v + "), empty set", new WordCodes().total(v), BAD_ARG);
            }
        });
        test("16: n from 0 to 16 is counted: no reading, one, and the most", () -> {
            long[] most = new long[17];
            most[0] = 1;
            most[1] = 2;
            for (int n = 2; n <= 16; n++) {
                most[n] = 2 * most[n - 1] + 4 * most[n - 2];
            }
            WordCodes all = set("0", "1", "00", "01", "10", "11");
            for (int n = 0; n <= 16; n++) {
                due("total(" + n + "), empty set", new WordCodes().total(n), n == 0 ? 1 : 0);
                due("total(" + n + "), 0", set("0").total(n), 1);
                due("total(" + n + "), 000000", set("000000").total(n), n % 6 == 0 ? 1 : 0);
                due("total(" + n + "), all short words", all.total(n), (int) most[n]);
            }
        });
    }

    private static void clearness() {
        test("17: 1 if the set is clear: the empty set", () -> due("isClear()", new WordCodes().isClear(), 1));
        test("17: 1 if the set is clear: each set of one word", () -> {
            for (int code = 2; code <= 127; code++) {
                WordCodes x = new WordCodes();
                x.add(code);
                due("isClear() of " + code, x.isClear(), 1);
            }
        });
        test("17: 1 if the set is clear: six words, and words that begin others", () -> {
            due("free", set(SIX_FREE_WORDS).isClear(), 1);
            due("not free but clear", set("0", "01", "011", "0111", "01111", "011111").isClear(), 1);
            due("an overhang that never ends", set("0", "01", "11").isClear(), 1);
        });
        test("17: else 0", () -> {
            due("0 00", set("0", "00").isClear(), 0);
            due("0 01 10", set("0", "01", "10").isClear(), 0);
            due("10 bits", set("0000", "000000").isClear(), 0);
            due("11 bits", set("00000", "000000").isClear(), 0);
        });
        test("17: 1 if the set is clear, else 0: it follows the set", () -> {
            WordCodes x = set("0", "01");
            due("isClear() of 0 01", x.isClear(), 1);
            x.add(code("10"));
            due("isClear() of 0 01 10", x.isClear(), 0);
            x.remove(code("0"));
            due("isClear() of 01 10", x.isClear(), 1);
            WordCodes y = set("0", "00");
            due("isClear() of 0 00", y.isClear(), 0);
            y.remove(code("00"));
            due("isClear() of 0", y.isClear(), 1);
        });
        test("18: NONE if the set is clear: it follows the set", () -> {
            WordCodes x = set("0", "01");
            due("shortest() of 0 01", x.shortest(), NONE);
            x.add(code("10"));
            due("shortest() of 0 01 10", x.shortest(), 3);
            x.remove(code("0"));
            due("shortest() of 01 10", x.shortest(), NONE);
            WordCodes y = set("0", "00");
            due("shortest() of 0 00", y.shortest(), 2);
            y.remove(code("00"));
            due("shortest() of 0", y.shortest(), NONE);
        });
        test("18: NONE if the set is clear", () -> {
            due("empty", new WordCodes().shortest(), NONE);
            for (int code = 2; code <= 127; code++) {
                WordCodes x = new WordCodes();
                x.add(code);
                due("shortest() of " + code, x.shortest(), NONE);
            }
            due("free", set(SIX_FREE_WORDS).shortest(), NONE);
            due("not free", set("0", "01", "011", "0111", "01111", "011111").shortest(), NONE);
            due("an overhang that never ends", set("0", "01", "11").shortest(), NONE);
        });
        test("18: The least number of bits of a doubtful row: 2 is the least there can be", () -> {
            due("0 00", set("0", "00").shortest(), 2);
            due("all short words", set("0", "1", "00", "01", "10", "11").shortest(), 2);
        });
        test("18: The least number of bits of a doubtful row: of several, the least", () -> {
            // 01 01010 and 01010 10
            due("7 bits", set("01", "10", "01010").shortest(), 7);
            // 00 000 and 000 00 beside them
            due("5 bits", set("01", "10", "01010", "000", "00").shortest(), 5);
            due("2 bits", set("0", "00", "000000", "00000").shortest(), 2);
            // Six times 1 and 111111, not 1 111111 and 111111 1
            due("6 bits", set("1", "111111").shortest(), 6);
        });
        test("18: The least number of bits of a doubtful row: more bits than the row that is kept can have", () -> {
            due("23 bits", set("00", "01001", "01010", "001101", "101000", "110101").shortest(), 23);
            due("35 bits", set("11", "10011", "010100", "011110", "101010", "111101").shortest(), 35);
            due("47 bits", set("001100", "01", "01000", "100011", "110001", "000110").shortest(), 47);
        });
    }

    private static void freeAndWeight() {
        test("19: 1 if no word is the beginning of another one: the empty set and one word", () -> {
            due("empty", new WordCodes().free(), 1);
            for (int code = 2; code <= 127; code++) {
                WordCodes x = new WordCodes();
                x.add(code);
                due("free() of " + code, x.free(), 1);
            }
        });
        test("19: else 0: each word with each of its beginnings", () -> {
            for (int code = 4; code <= 127; code++) {
                for (int start = code / 2; start >= 2; start /= 2) {
                    WordCodes x = new WordCodes();
                    x.add(code);
                    x.add(start);
                    due("free() of " + start + " and " + code, x.free(), 0);
                }
            }
        });
        test("19: 1 if no word is the beginning of another one: an end or a middle is none", () -> {
            due("an end", set("0", "111110").free(), 1);
            due("a middle", set("00", "110011").free(), 1);
            due("the same length", set("000000", "000001", "000010").free(), 1);
        });
        test("19: 1 if no word is the beginning of another one: six words", () ->
            due("six", set(SIX_FREE_WORDS).free(), 1));
        test("19: 1 if no word is the beginning of another one: a word that has gone is none", () -> {
            WordCodes first = set("0", "01", "11");
            first.remove(code("0"));
            due("without the beginning", first.free(), 1);
            WordCodes last = set("0", "11", "110");
            last.remove(code("110"));
            due("without the longer one", last.free(), 1);
        });
        test("19: another one: the first with the last of six, and neighbours", () -> {
            due("first and last", set("0", "10", "110", "1110", "11110", "000000").free(), 0);
            due("neighbours at the end", set("00", "01", "100", "101", "11111", "111111").free(), 0);
            due("neighbours at the start", set("0", "00", "10", "110", "1110", "11110").free(), 0);
        });
        test("20: -1 if it is less than 1: the empty set, and by as little as can be", () -> {
            due("0", new WordCodes().weight(), -1);
            due("1/64", set("000000").weight(), -1);
            due("63/64", set("0", "10", "110", "1110", "11110", "111110").weight(), -1);
        });
        test("20: 0 if it is 1", () -> {
            due("two of 1", set("0", "1").weight(), 0);
            due("four of 2", set("00", "01", "10", "11").weight(), 0);
            due("six words", set(SIX_FREE_WORDS).weight(), 0);
            due("words that begin others", set("0", "00", "000", "0000", "00000", "11111").weight(), 0);
        });
        test("20: 1 if it is greater: by as little as can be, and the most", () -> {
            due("65/64", set("0", "1", "000000").weight(), 1);
            due("2", set("0", "1", "00", "01", "10", "11").weight(), 1);
        });
    }

    private static void addTests() {
        whatItIs();
        termsOfWords();
        termsOfReadings();
        termsOfTheRow();
        termsOfRefusals();
        newObject();
        add();
        remove();
        reverse();
        wordAndWords();
        bit();
        append();
        clearAndRow();
        readings();
        read();
        fewest();
        counts();
        clearness();
        freeAndWeight();
    }

    private static boolean holds(String sentence, Runnable body) {
        FAULTS.clear();
        try {
            body.run();
        } catch (RuntimeException thrown) {
            FAULTS.add("a call threw " + thrown);
        }
        if (!FAULTS.isEmpty()) {
            System.out.println("BROKEN \"" + sentence + "\", " + FAULTS.size() + " faults");
            FAULTS.stream().limit(8).forEach(fault -> System.out.println("    " + fault));
        }
        return FAULTS.isEmpty();
    }

    public static void main(String[] args) {
        addTests();
        int broken = 0;
        for (Map.Entry<String, Runnable> entry : TESTS.entrySet()) {
            broken += holds(entry.getKey(), entry.getValue()) ? 0 : 1;
        }
        System.out.println(TESTS.size() + " sentences, " + broken + " broken");
        if (broken != 0) {
            System.exit(1);
        }
    }
}
