import java.lang.reflect.Constructor;
import java.lang.reflect.Field;
import java.lang.reflect.Method;
import java.lang.reflect.Modifier;
import java.util.Set;
import java.util.TreeSet;

/** The promises one by one: ordinary inputs, the edges that the document names, wrong inputs. */
public final class PromisesTest {
    private static final int BAD_ARG = -1;
    private static final int FULL = -2;
    private static final int NONE = -4;
    private static final int[] FAR = {Integer.MIN_VALUE, -1000, -4, -1, 1 << 20, Integer.MAX_VALUE};

    private static int wrong = 0;

    private static void due(String what, int got, int want) {
        if (got != want) {
            wrong++;
            System.out.println(what + " answered " + got + ", due is " + want);
        }
    }

    /** The code of a row that is written as text, so that the tests need not count in codes. */
    private static int code(String bits) {
        return Integer.parseInt("1" + bits, 2);
    }

    private static WordCodes set(String... words) {
        WordCodes x = new WordCodes();
        for (String word : words) {
            x.add(code(word));
        }
        return x;
    }

    private static WordCodes withRow(WordCodes x, String bits) {
        x.clear();
        for (char c : bits.toCharArray()) {
            x.bit(c - '0');
        }
        return x;
    }

    private static void dueSet(String what, WordCodes x, String... words) {
        due(what + ": words()", x.words(), words.length);
        for (int k = 0; k < words.length; k++) {
            due(what + ": word(" + k + ")", x.word(k), code(words[k]));
        }
        due(what + ": word past the end", x.word(words.length), NONE);
    }

    /** Every word of every reading, and NONE behind the last of each and of all. */
    private static void dueReadings(String what, WordCodes x, int[]... all) {
        due(what + ": readings()", x.readings(), all.length);
        for (int n = 0; n < all.length; n++) {
            for (int i = 0; i < all[n].length; i++) {
                due(what + ": read(" + n + ", " + i + ")", x.read(n, i), all[n][i]);
            }
            due(what + ": read(" + n + ", end)", x.read(n, all[n].length), NONE);
            due(what + ": read(" + n + ", end + 1)", x.read(n, all[n].length + 1), NONE);
        }
        due(what + ": read past the last", x.read(all.length, 0), NONE);
    }

    private static int[] reading(int... numbers) {
        return numbers;
    }

    private static void face() {
        Set<String> seen = new TreeSet<>();
        for (Method m : WordCodes.class.getDeclaredMethods()) {
            if (!Modifier.isPrivate(m.getModifiers())) {
                seen.add(m.getReturnType() + " " + m.getName() + "/" + m.getParameterCount());
            }
        }
        Set<String> want = new TreeSet<>(Set.of("int add/1", "int remove/1", "int reverse/0", "int word/1",
                "int words/0", "int bit/1", "int append/1", "int clear/0", "int row/0", "int readings/0",
                "int read/2", "int fewest/0", "int messages/1", "int doubtful/1", "int total/1",
                "int isClear/0", "int shortest/0", "int free/0", "int weight/0"));
        due("face: methods " + seen, seen.equals(want) ? 1 : 0, 1);
        Set<String> fields = new TreeSet<>();
        for (Field f : WordCodes.class.getDeclaredFields()) {
            if (!Modifier.isPrivate(f.getModifiers())) {
                fields.add(f.getName());
            }
        }
        due("face: fields " + fields, fields.equals(Set.of("BAD_ARG", "FULL", "NONE")) ? 1 : 0, 1);
        Constructor<?>[] made = WordCodes.class.getDeclaredConstructors();
        due("face: constructors", made.length, 1);
        due("face: class is final", Modifier.isFinal(WordCodes.class.getModifiers()) ? 1 : 0, 1);
        due("BAD_ARG", WordCodes.BAD_ARG, BAD_ARG);
        due("FULL", WordCodes.FULL, FULL);
        due("NONE", WordCodes.NONE, NONE);
    }

    private static void promise1NewObject() {
        dueSet("1 new", new WordCodes());
        due("1 row()", new WordCodes().row(), 1);
        due("1 clear()", new WordCodes().clear(), 0);
        WordCodes used = withRow(set("0", "1"), "0110");
        dueSet("1 beside a used one", new WordCodes());
        due("1 row() beside a used one", new WordCodes().row(), 1);
        dueSet("1 the used one", used, "0", "1");
    }

    private static void promise2Add() {
        WordCodes x = new WordCodes();
        due("2 add(2)", x.add(2), 0);
        due("2 add(127)", x.add(127), 1);
        due("2 add(64)", x.add(64), 1);
        due("2 add(3)", x.add(3), 1);
        dueSet("2 in the order of codes", x, "0", "1", "000000", "111111");
        due("2 again add(127)", x.add(127), 3);
        due("2 again add(2)", x.add(2), 0);
        due("2 add(1)", x.add(1), BAD_ARG);
        due("2 add(0)", x.add(0), BAD_ARG);
        due("2 add(128)", x.add(128), BAD_ARG);
        for (int far : FAR) {
            due("2 add(" + far + ")", x.add(far), BAD_ARG);
        }
        dueSet("2 after refusals", x, "0", "1", "000000", "111111");
        due("2 fifth", x.add(code("01")), 2);
        due("2 sixth", x.add(code("10")), 3);
        due("2 seventh", x.add(code("11")), FULL);
        due("2 in a full set already", x.add(code("000000")), 4);
        due("2 wrong in a full set", x.add(128), BAD_ARG);
        dueSet("2 full", x, "0", "1", "01", "10", "000000", "111111");
    }

    private static void promise3Remove() {
        WordCodes x = set("0", "00", "01", "111", "101010", "111111");
        due("3 not in it", x.remove(code("1")), NONE);
        due("3 remove(1)", x.remove(1), NONE);
        due("3 remove(0)", x.remove(0), NONE);
        due("3 remove(128)", x.remove(128), NONE);
        for (int far : FAR) {
            due("3 remove(" + far + ")", x.remove(far), NONE);
        }
        dueSet("3 after refusals", x, "0", "00", "01", "111", "101010", "111111");
        due("3 a middle one", x.remove(code("01")), 5);
        dueSet("3 a middle one", x, "0", "00", "111", "101010", "111111");
        due("3 again", x.remove(code("01")), NONE);
        due("3 the last", x.remove(code("111111")), 4);
        due("3 the one that was last", x.remove(code("111111")), NONE);
        due("3 the first", x.remove(code("0")), 3);
        dueSet("3 three left", x, "00", "111", "101010");
        due("3 room again", x.add(code("0")), 0);
        x.remove(code("0"));
        x.remove(code("00"));
        x.remove(code("111"));
        due("3 the only one", x.remove(code("101010")), 0);
        due("3 from the empty set", x.remove(code("101010")), NONE);
        dueSet("3 empty", x);
        WordCodes y = withRow(set("01"), "0101");
        y.remove(code("01"));
        due("3 the row stays", y.row(), code("0101"));
    }

    private static void promise4Reverse() {
        due("4 empty", new WordCodes().reverse(), 0);
        WordCodes x = withRow(set("1", "01", "001", "110", "100000", "001011"), "0011");
        due("4 reverse()", x.reverse(), 6);
        dueSet("4 turned", x, "1", "10", "011", "100", "000001", "110100");
        due("4 the row stays", x.row(), code("0011"));
        due("4 add finds a turned word", x.add(code("110100")), 5);
        due("4 append takes a turned word", x.append(4), 10);
        due("4 row()", x.row(), code("0011000001"));
        due("4 back", x.reverse(), 6);
        dueSet("4 back", x, "1", "01", "001", "110", "001011", "100000");
        WordCodes y = set("10", "1", "100");
        due("4 free before", y.free(), 0);
        y.reverse();
        dueSet("4 mixed lengths", y, "1", "01", "001");
        due("4 turned words are free", y.free(), 1);
    }

    private static void promise5Word() {
        WordCodes x = set("11", "0", "10");
        due("5 word(0)", x.word(0), code("0"));
        due("5 word(1)", x.word(1), code("10"));
        due("5 word(2)", x.word(2), code("11"));
        due("5 word(3)", x.word(3), NONE);
        due("5 word(5)", x.word(5), NONE);
        due("5 word(6)", x.word(6), NONE);
        for (int far : FAR) {
            due("5 word(" + far + ")", x.word(far), NONE);
        }
        due("5 shorter words first", set("111111", "00", "1").word(1), code("00"));
        x.remove(code("11"));
        due("5 a removed one", x.word(2), NONE);
    }

    private static void promise6Words() {
        WordCodes x = new WordCodes();
        int[] codes = {2, 3, 4, 5, 6, 7};
        for (int k = 0; k < codes.length; k++) {
            due("6 words()", x.words(), k);
            x.add(codes[k]);
            x.add(codes[k]);
        }
        due("6 full", x.words(), 6);
        x.add(8);
        due("6 over full", x.words(), 6);
        x.remove(4);
        due("6 one less", x.words(), 5);
    }

    private static void promise7Bit() {
        WordCodes x = new WordCodes();
        due("7 bit(2)", x.bit(2), BAD_ARG);
        for (int far : FAR) {
            due("7 bit(" + far + ")", x.bit(far), BAD_ARG);
        }
        due("7 row() after refusals", x.row(), 1);
        int want = 1;
        for (int length = 1; length <= 16; length++) {
            int bit = length % 3 == 0 ? 1 : 0;
            want = 2 * want + bit;
            due("7 bit " + length, x.bit(bit), length);
            due("7 row() of " + length, x.row(), want);
        }
        due("7 bit(0) at 16", x.bit(0), FULL);
        due("7 bit(1) at 16", x.bit(1), FULL);
        due("7 bit(2) at 16", x.bit(2), BAD_ARG);
        due("7 bit(-1) at 16", x.bit(-1), BAD_ARG);
        due("7 row() of a full one", x.row(), want);
    }

    private static void promise8Append() {
        WordCodes x = set("0", "01", "110", "101101");
        due("8 append(3)", x.append(3), 6);
        due("8 append(1)", x.append(1), 8);
        due("8 append(0)", x.append(0), 9);
        due("8 append(2)", x.append(2), 12);
        due("8 row()", x.row(), code("101101" + "01" + "0" + "110"));
        due("8 append(4)", x.append(4), NONE);
        for (int far : FAR) {
            due("8 append(" + far + ")", x.append(far), NONE);
        }
        due("8 18 bits", x.append(3), FULL);
        due("8 row() after refusals", x.row(), code("101101" + "01" + "0" + "110"));
        due("8 15 bits", x.append(2), 15);
        due("8 17 bits", x.append(1), FULL);
        due("8 just 16 bits", x.append(0), 16);
        due("8 no room", x.append(0), FULL);
        due("8 no word, no room", x.append(4), NONE);
        due("8 row() at 16", x.row(), code("101101" + "01" + "0" + "110" + "110" + "0"));
        due("8 empty set", new WordCodes().append(0), NONE);
        WordCodes y = set("110000");
        due("8 6", y.append(0), 6);
        due("8 12", y.append(0), 12);
        due("8 over", y.append(0), FULL);
        due("8 length is kept", y.clear(), 12);
    }

    private static void promise9Clear() {
        WordCodes x = withRow(set("0", "11"), "01101");
        due("9 clear()", x.clear(), 5);
        due("9 row()", x.row(), 1);
        due("9 again", x.clear(), 0);
        dueSet("9 the set stays", x, "0", "11");
        due("9 bit() starts anew", x.bit(1), 1);
        due("9 full one", withRow(x, "1111111111111111").clear(), 16);
        due("9 append() starts anew", x.append(1), 2);
    }

    private static void promise10Row() {
        due("10 empty", new WordCodes().row(), 1);
        due("10 0", withRow(new WordCodes(), "0").row(), 2);
        due("10 0000", withRow(new WordCodes(), "0000").row(), 16);
        due("10 1010", withRow(new WordCodes(), "1010").row(), 26);
        due("10 16 zeros", withRow(new WordCodes(), "0000000000000000").row(), 65536);
        due("10 16 ones", withRow(new WordCodes(), "1111111111111111").row(), 131071);
    }

    private static void promise11Readings() {
        due("11 empty row, empty set", new WordCodes().readings(), 1);
        due("11 empty row", set("0", "1").readings(), 1);
        due("11 empty set", withRow(new WordCodes(), "0").readings(), 0);
        due("11 none", withRow(set("0", "11"), "01").readings(), 0);
        due("11 one", withRow(set("0", "11"), "0110").readings(), 1);
        due("11 two", withRow(set("0", "01", "10"), "010").readings(), 2);
        due("11 a word too long for the row", withRow(set("000"), "00").readings(), 0);
        WordCodes most = set("0", "00", "000", "0000", "00000", "000000");
        due("11 16 zeros", withRow(most, "0000000000000000").readings(), 29970);
        due("11 16 zeros, 1 and 2", withRow(set("0", "00"), "0000000000000000").readings(), 1597);
        WordCodes x = withRow(set("0", "01", "10"), "010");
        x.remove(code("0"));
        due("11 after remove", x.readings(), 0);
        due("11 the row stays", x.row(), code("010"));
    }

    private static void promise12Read() {
        dueReadings("12 empty row", set("0", "1"), reading());
        dueReadings("12 no reading", withRow(set("0"), "01"));
        WordCodes x = withRow(set("0", "00"), "0000");
        dueReadings("12 0000", x, reading(0, 0, 0, 0), reading(0, 0, 1), reading(0, 1, 0), reading(1, 0, 0),
                reading(1, 1));
        // The word with the lesser number is not always the one that stands first in a dictionary.
        dueReadings("12 numbers count", withRow(set("1", "10", "01", "101"), "1011"),
                reading(0, 1, 0), reading(2, 0, 0), reading(3, 0));
        for (int far : FAR) {
            due("12 read(" + far + ", 0)", x.read(far, 0), NONE);
            due("12 read(0, " + far + ")", x.read(0, far), NONE);
            due("12 read(" + far + ", " + far + ")", x.read(far, far), NONE);
        }
        due("12 row() stays", x.row(), code("0000"));
        WordCodes most = withRow(set("0", "00", "000", "0000", "00000", "000000"), "0000000000000000");
        due("12 first, last word", most.read(0, 15), 0);
        due("12 first, behind it", most.read(0, 16), NONE);
        due("12 last, word 0", most.read(29969, 0), 5);
        due("12 last, word 1", most.read(29969, 1), 5);
        due("12 last, word 2", most.read(29969, 2), 3);
        due("12 last, behind it", most.read(29969, 3), NONE);
        due("12 behind the last", most.read(29970, 0), NONE);
    }

    private static void promise13Fewest() {
        due("13 empty row", new WordCodes().fewest(), 0);
        due("13 no reading", withRow(set("0"), "01").fewest(), NONE);
        due("13 empty set", withRow(new WordCodes(), "1").fewest(), NONE);
        due("13 a word", withRow(set("0", "1", "01"), "01").fewest(), 1);
        due("13 16 words", withRow(set("0"), "0000000000000000").fewest(), 16);
        // To take the longest word first would give 00000 0 0 0, or no reading at all.
        due("13 not the longest first", withRow(set("0", "0000", "00000"), "00000000").fewest(), 2);
        due("13 longest first is a dead end", withRow(set("0", "01", "001", "0010"), "00101").fewest(), 2);
        due("13 only one way", withRow(set("01", "011", "1"), "0111").fewest(), 2);
    }

    private static void promise14Messages() {
        due("14 empty set, 0", new WordCodes().messages(0), 1);
        due("14 empty set, 1", new WordCodes().messages(1), 0);
        WordCodes x = set("0", "1", "01");
        for (int n = 0; n <= 10; n++) {
            due("14 all rows of " + n, x.messages(n), 1 << n);
        }
        int[] fibonacci = {1, 1, 2, 3, 5, 8, 13, 21, 34, 55, 89};
        WordCodes y = withRow(set("0", "11"), "0110");
        for (int n = 0; n <= 10; n++) {
            due("14 messages(" + n + ")", y.messages(n), fibonacci[n]);
        }
        due("14 doubtful ones count once", set("0", "00").messages(10), 1);
        due("14 messages(11)", y.messages(11), BAD_ARG);
        due("14 messages(16)", y.messages(16), BAD_ARG);
        for (int far : FAR) {
            due("14 messages(" + far + ")", y.messages(far), BAD_ARG);
        }
        due("14 row() stays", y.row(), code("0110"));
        due("14 readings() stay", y.readings(), 1);
    }

    private static void promise15Doubtful() {
        due("15 empty set, 0", new WordCodes().doubtful(0), 0);
        due("15 empty set, 10", new WordCodes().doubtful(10), 0);
        due("15 clear set", set("0", "10", "11").doubtful(10), 0);
        WordCodes x = withRow(set("0", "1", "00"), "00");
        due("15 doubtful(0)", x.doubtful(0), 0);
        due("15 doubtful(1)", x.doubtful(1), 0);
        due("15 doubtful(2)", x.doubtful(2), 1);
        due("15 doubtful(3)", x.doubtful(3), 3);
        due("15 doubtful(4)", x.doubtful(4), 8);
        // All but those without 00: 1024 - 144.
        due("15 doubtful(10)", x.doubtful(10), 880);
        due("15 doubtful(11)", x.doubtful(11), BAD_ARG);
        due("15 doubtful(16)", x.doubtful(16), BAD_ARG);
        for (int far : FAR) {
            due("15 doubtful(" + far + ")", x.doubtful(far), BAD_ARG);
        }
        due("15 row() stays", x.row(), code("00"));
        due("15 readings() stay", x.readings(), 2);
    }

    private static void promise16Total() {
        due("16 empty set, 0", new WordCodes().total(0), 1);
        due("16 empty set, 16", new WordCodes().total(16), 0);
        WordCodes x = set("0", "1");
        for (int n = 0; n <= 16; n++) {
            due("16 total(" + n + ")", x.total(n), 1 << n);
        }
        // f(n) = 2 f(n - 1) + 4 f(n - 2): no set has more.
        WordCodes most = set("0", "1", "00", "01", "10", "11");
        int before = 1;
        int now = 2;
        for (int n = 1; n <= 16; n++) {
            due("16 most, total(" + n + ")", most.total(n), now);
            int next = 2 * now + 4 * before;
            before = now;
            now = next;
        }
        due("16 length 6 alone, 12", set("000000", "101010").total(12), 4);
        due("16 length 6 alone, 13", set("000000", "101010").total(13), 0);
        due("16 total(17)", x.total(17), BAD_ARG);
        for (int far : FAR) {
            due("16 total(" + far + ")", x.total(far), BAD_ARG);
        }
    }

    private static void dueShortest(int want, String... words) {
        WordCodes x = set(words);
        String what = String.join(" ", words);
        due("17 isClear() of " + what, x.isClear(), want == NONE ? 1 : 0);
        due("18 shortest() of " + what, x.shortest(), want);
        due("17 again isClear() of " + what, x.isClear(), want == NONE ? 1 : 0);
        x.reverse();
        due("17 turned isClear() of " + what, x.isClear(), want == NONE ? 1 : 0);
        due("18 turned shortest() of " + what, x.shortest(), want);
    }

    private static void promises17And18() {
        dueShortest(NONE);
        dueShortest(NONE, "0");
        dueShortest(NONE, "010101");
        dueShortest(NONE, "0", "10", "11");
        dueShortest(NONE, "0", "01", "11");
        dueShortest(NONE, "0", "01", "011", "0111");
        dueShortest(2, "0", "00");
        dueShortest(3, "0", "01", "10");
        dueShortest(2, "0", "1", "01");
        // 0000 000000 and 000000 0000: two words that commute.
        dueShortest(10, "0000", "000000");
        dueShortest(11, "00000", "000000");
        dueShortest(5, "00", "000");
        // 01 01010 and 01010 10.
        dueShortest(7, "01", "10", "01010", "101100", "001011", "111000");
        // The overhang goes through more words before the two readings meet.
        dueShortest(8, "01", "10", "011", "1110");
        WordCodes x = set("0", "10", "11");
        due("18 clear", x.shortest(), NONE);
        x.add(code("110"));
        due("18 after add", x.shortest(), 3);
        due("17 after add", x.isClear(), 0);
        x.remove(code("110"));
        due("18 after remove", x.shortest(), NONE);
        due("17 after remove", x.isClear(), 1);
        // The row that is kept has no say.
        due("18 with a row", withRow(set("0", "01", "11"), "0111").shortest(), NONE);
    }

    private static void promise19Free() {
        due("19 empty", new WordCodes().free(), 1);
        due("19 one", set("0").free(), 1);
        due("19 free", set("0", "10", "110", "111").free(), 1);
        due("19 0 and 01", set("0", "01").free(), 0);
        due("19 0 and 000000", set("0", "000000").free(), 0);
        due("19 11111 and 111111", set("00", "11111", "111111").free(), 0);
        due("19 an end is no beginning", set("0", "10").free(), 1);
        due("19 a middle is no beginning", set("0", "101").free(), 1);
        due("19 same length", set("00", "01", "10", "11").free(), 1);
        due("19 clear but not free", set("0", "01", "11").free(), 0);
    }

    private static void promise20Weight() {
        due("20 empty", new WordCodes().weight(), -1);
        due("20 one half", set("0").weight(), -1);
        due("20 1", set("0", "1").weight(), 0);
        due("20 1 of six", set("0", "10", "110", "1110", "11110", "11111").weight(), 0);
        due("20 1 of six, doubtful", set("0", "00", "000", "0000", "00000", "11111").weight(), 0);
        due("20 63 / 64", set("0", "00", "000", "0000", "00000", "000000").weight(), -1);
        due("20 65 / 64", set("0", "1", "000000").weight(), 1);
        due("20 more", set("0", "1", "00", "01", "10", "11").weight(), 1);
        due("20 6 / 64", set("000000", "000001", "000010", "000011", "000100", "000101").weight(), -1);
        due("20 four of 2", set("00", "01", "10", "11").weight(), 0);
        due("20 four of 2 and one of 6", set("00", "01", "10", "11", "111111").weight(), 1);
    }

    public static void main(String[] args) {
        face();
        promise1NewObject();
        promise2Add();
        promise3Remove();
        promise4Reverse();
        promise5Word();
        promise6Words();
        promise7Bit();
        promise8Append();
        promise9Clear();
        promise10Row();
        promise11Readings();
        promise12Read();
        promise13Fewest();
        promise14Messages();
        promise15Doubtful();
        promise16Total();
        promises17And18();
        promise19Free();
        promise20Weight();
        System.out.println(wrong == 0 ? "all answers are as due" : wrong + " answers are not as due");
        if (wrong != 0) {
            System.exit(1);
        }
    }
}
