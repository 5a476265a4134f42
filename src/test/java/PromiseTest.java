// Each promise of the document with answers worked out by hand: ordinary
// inputs, the edges that the document names, and wrong inputs.
public final class PromiseTest {
    private static int wrong = 0;

    private static void due(int promise, String call, int got, int want) {
        if (got != want) {
            wrong++;
            System.out.println("promise " + promise + ": " + call + " answered " + got + ", due is " + want);
        }
    }

    private static RepeatFinder with(String text, String probe) {
        RepeatFinder x = new RepeatFinder();
        for (char c : text.toCharArray()) {
            x.type(c - '0');
        }
        for (char c : probe.toCharArray()) {
            x.ask(c - '0');
        }
        return x;
    }

    private static void newObject() {
        RepeatFinder x = new RepeatFinder();
        due(1, "words()", x.words(), 0);
        due(1, "shift()", x.shift(), RepeatFinder.BAD);
        due(1, "count()", x.count(), RepeatFinder.NONE);
        due(1, "wipe()", x.wipe(), 0);
        due(1, "type(0)", x.type(0), 1);
        due(1, "ask(0)", x.ask(0), 1);
        RepeatFinder y = new RepeatFinder();
        due(1, "words() of a second object", y.words(), 0);
        due(1, "wipe() of a second object", y.wipe(), 0);
    }

    private static void type() {
        RepeatFinder x = with("", "2");
        due(2, "type(-1)", x.type(-1), RepeatFinder.BAD);
        due(2, "type(4)", x.type(4), RepeatFinder.BAD);
        due(2, "type(MAX)", x.type(Integer.MAX_VALUE), RepeatFinder.BAD);
        due(2, "type(MIN)", x.type(Integer.MIN_VALUE), RepeatFinder.BAD);
        for (int n = 1; n <= 24; n++) {
            due(2, "type " + n, x.type((n - 1) % 4), n);
        }
        due(2, "type of a letter too many", x.type(0), RepeatFinder.FULL);
        due(2, "place() of letter 2", x.place(), 2);
        due(2, "count() of letter 2", x.count(), 6);
        due(2, "longest(1)", x.longest(1), 24);
        RepeatFinder y = with("012", "12");
        due(2, "place(), letters are added at the end", y.place(), 1);
    }

    private static void shift() {
        RepeatFinder x = with("0123", "3");
        due(3, "shift()", x.shift(), 3);
        due(3, "place()", x.place(), 2);
        due(3, "shift()", x.shift(), 2);
        due(3, "shift()", x.shift(), 1);
        due(3, "place()", x.place(), 0);
        due(3, "shift()", x.shift(), 0);
        due(3, "place()", x.place(), RepeatFinder.NONE);
        due(3, "shift() of an empty text", x.shift(), RepeatFinder.BAD);
        due(3, "type(3) after it", x.type(3), 1);
        due(3, "wipe(), the probe stayed", x.wipe(), 1);
        RepeatFinder full = with("000000000000000000000001", "1");
        due(3, "shift() of a full text", full.shift(), 23);
        due(3, "type(2)", full.type(2), 24);
        due(3, "place() of 1", full.place(), 22);
        full.ask(2);
        due(3, "place() of 12", full.place(), 22);
    }

    private static void ask() {
        RepeatFinder x = with("01230123012", "");
        due(4, "ask(-1)", x.ask(-1), RepeatFinder.BAD);
        due(4, "ask(4)", x.ask(4), RepeatFinder.BAD);
        due(4, "ask(MAX)", x.ask(Integer.MAX_VALUE), RepeatFinder.BAD);
        due(4, "ask(MIN)", x.ask(Integer.MIN_VALUE), RepeatFinder.BAD);
        for (int n = 1; n <= 12; n++) {
            due(4, "ask " + n, x.ask((n - 1) % 4), n);
        }
        due(4, "ask of a letter too many", x.ask(0), RepeatFinder.FULL);
        due(4, "count() of a probe longer than the text", x.count(), 0);
        due(4, "type(3)", x.type(3), 12);
        due(4, "count() of the whole text", x.count(), 1);
    }

    private static void wipe() {
        RepeatFinder x = with("0101", "01");
        due(5, "wipe()", x.wipe(), 2);
        due(5, "wipe() again", x.wipe(), 0);
        due(5, "count()", x.count(), RepeatFinder.NONE);
        due(5, "ask(1)", x.ask(1), 1);
        due(5, "place()", x.place(), 1);
        due(5, "words(), the text stayed", x.words(), 7);
        RepeatFinder full = with("", "012301230123");
        due(5, "wipe() of a full probe", full.wipe(), 12);
        due(5, "ask(0) after it", full.ask(0), 1);
    }

    private static void count() {
        due(6, "empty probe", with("0101", "").count(), RepeatFinder.NONE);
        due(6, "both empty", with("", "").count(), RepeatFinder.NONE);
        due(6, "empty text", with("", "0").count(), 0);
        due(6, "00 in 0000", with("0000", "00").count(), 3);
        due(6, "010 in 01010", with("01010", "010").count(), 2);
        due(6, "at the end", with("01233", "33").count(), 1);
        due(6, "past the end", with("0100", "000").count(), 0);
        due(6, "whole text", with("0123", "0123").count(), 1);
        due(6, "letter that is not there", with("0120", "3").count(), 0);
        RepeatFinder x = with("0100", "00");
        x.shift();
        due(6, "letters left behind by shift", x.count(), 1);
        x.shift();
        x.shift();
        due(6, "letters left behind by shifts", x.count(), 0);
    }

    private static void place() {
        due(7, "empty probe", with("0101", "").place(), RepeatFinder.NONE);
        due(7, "occurs nowhere", with("0101", "11").place(), RepeatFinder.NONE);
        due(7, "empty text", with("", "0").place(), RepeatFinder.NONE);
        due(7, "longer than the text", with("01", "012").place(), RepeatFinder.NONE);
        due(7, "smallest of two", with("2010301", "01").place(), 1);
        due(7, "place 0", with("0101", "01").place(), 0);
        due(7, "last place", with("000000000000000000000003", "3").place(), 23);
    }

    private static void words() {
        due(8, "empty text", with("", "").words(), 0);
        due(8, "one letter", with("2", "").words(), 1);
        due(8, "01", with("01", "").words(), 3);
        due(8, "000", with("000", "").words(), 3);
        due(8, "0101", with("0101", "").words(), 7);
        due(8, "0123, the probe does not matter", with("0123", "33").words(), 10);
        due(8, "24 equal letters", with("333333333333333333333333", "").words(), 24);
    }

    private static void longest() {
        RepeatFinder x = with("01201201", "");
        due(9, "longest(0)", x.longest(0), RepeatFinder.BAD);
        due(9, "longest(-1)", x.longest(-1), RepeatFinder.BAD);
        due(9, "longest(25)", x.longest(25), RepeatFinder.BAD);
        due(9, "longest(MIN)", x.longest(Integer.MIN_VALUE), RepeatFinder.BAD);
        due(9, "longest(MAX)", x.longest(Integer.MAX_VALUE), RepeatFinder.BAD);
        due(9, "longest(1)", x.longest(1), 8);
        due(9, "longest(2)", x.longest(2), 5);
        due(9, "longest(3)", x.longest(3), 2);
        due(9, "longest(4)", x.longest(4), 0);
        due(9, "longest(24)", x.longest(24), 0);
        due(9, "longest(1) of an empty text", with("", "").longest(1), 0);
        due(9, "longest(0) of an empty text", with("", "").longest(0), RepeatFinder.BAD);
        RepeatFinder full = with("111111111111111111111111", "");
        due(9, "longest(24) of 24 equal letters", full.longest(24), 1);
        due(9, "longest(23) of 24 equal letters", full.longest(23), 2);
        due(9, "longest(1) of 24 equal letters", full.longest(1), 24);
    }

    private static void repeats() {
        due(10, "empty text", with("", "").repeats(), 0);
        due(10, "one letter", with("0", "").repeats(), 0);
        due(10, "0123", with("0123", "").repeats(), 0);
        due(10, "00: 0", with("00", "").repeats(), 1);
        due(10, "0101: 01", with("0101", "").repeats(), 1);
        due(10, "01201: 01", with("01201", "").repeats(), 1);
        due(10, "010: 0", with("010", "").repeats(), 1);
        due(10, "201301: 01", with("201301", "").repeats(), 1);
        due(10, "011021: 0, 1", with("011021", "").repeats(), 2);
        due(10, "01010: 0, 010", with("01010", "").repeats(), 2);
        due(10, "3012301: 301", with("3012301", "").repeats(), 1);
        due(10, "313113231: 1, 3, 13, 31", with("313113231", "").repeats(), 4);
        due(10, "24 equal letters", with("000000000000000000000000", "").repeats(), 23);
    }

    private static void word() {
        // 0 01 010 0101 1 10 101
        RepeatFinder x = with("0101", "");
        int[] want = {1, 2, 3, 4, 26, 27, 28};
        for (int k = 0; k < want.length; k++) {
            due(11, "word(" + k + ") of 0101", x.word(k), want[k]);
        }
        due(11, "word(7)", x.word(7), RepeatFinder.NONE);
        due(11, "word(-1)", x.word(-1), RepeatFinder.NONE);
        due(11, "word(MAX)", x.word(Integer.MAX_VALUE), RepeatFinder.NONE);
        due(11, "word(MIN)", x.word(Integer.MIN_VALUE), RepeatFinder.NONE);
        due(11, "word(0) of an empty text", with("", "").word(0), RepeatFinder.NONE);
        // 0 1 10 2 21 210
        RepeatFinder down = with("210", "");
        int[] wantDown = {51, 26, 27, 1, 2, 3};
        for (int k = 0; k < wantDown.length; k++) {
            due(11, "word(" + k + ") of 210", down.word(k), wantDown[k]);
        }
        // 0, then each run of 3s, followed by the same run with a 0 behind it
        RepeatFinder full = with("333333333333333333333330", "");
        due(11, "word(0) of a full text", full.word(0), 25 * 23 + 1);
        due(11, "word(1) of a full text", full.word(1), 1);
        due(11, "word(2) of a full text", full.word(2), 25 * 22 + 2);
        due(11, "word(44) of a full text", full.word(44), 25 * 1 + 23);
        due(11, "word(45) of a full text", full.word(45), 23);
        due(11, "word(46) of a full text", full.word(46), 24);
        due(11, "word(47) of a full text", full.word(47), RepeatFinder.NONE);
    }

    private static void rank() {
        due(12, "empty probe", with("0101", "").rank(), RepeatFinder.NONE);
        due(12, "both empty", with("", "").rank(), RepeatFinder.NONE);
        due(12, "empty text", with("", "3").rank(), 0);
        due(12, "first word, itself not counted", with("0101", "0").rank(), 0);
        due(12, "01", with("0101", "01").rank(), 1);
        due(12, "1", with("0101", "1").rank(), 4);
        due(12, "last word", with("0101", "101").rank(), 6);
        due(12, "after all", with("0101", "3").rank(), 7);
        due(12, "before all", with("1212", "03").rank(), 0);
        due(12, "not a word: 00", with("0101", "00").rank(), 1);
        due(12, "not a word: 0111", with("0101", "0111").rank(), 4);
        due(12, "not a word, goes on behind one: 01011", with("0101", "01011").rank(), 4);
    }

    private static void common() {
        due(13, "both empty", with("", "").common(), 0);
        due(13, "empty probe", with("0101", "").common(), 0);
        due(13, "empty text", with("", "0101").common(), 0);
        due(13, "no letter in common", with("0101", "2323").common(), 0);
        due(13, "one letter", with("0001", "2312").common(), 1);
        due(13, "whole probe", with("0123", "12").common(), 2);
        due(13, "whole text", with("12", "0123").common(), 2);
        due(13, "inside both", with("0012300", "331233").common(), 3);
        due(13, "end of the text, start of the probe", with("3012", "0123").common(), 3);
        due(13, "letters apart are not a word", with("0213", "0123").common(), 1);
        due(13, "text and probe do not run together", with("000000000000000000000012", "1200").common(), 2);
        due(13, "twelve letters", with("0001230123012300", "012301230123").common(), 12);
    }

    private static void unique() {
        RepeatFinder x = with("0010", "");
        due(14, "unique(-1)", x.unique(-1), RepeatFinder.BAD);
        due(14, "unique(4)", x.unique(4), RepeatFinder.BAD);
        due(14, "unique(MAX)", x.unique(Integer.MAX_VALUE), RepeatFinder.BAD);
        due(14, "unique(MIN)", x.unique(Integer.MIN_VALUE), RepeatFinder.BAD);
        due(14, "unique(0) of 0010", x.unique(0), 2);
        due(14, "unique(1) of 0010", x.unique(1), 2);
        due(14, "unique(2) of 0010", x.unique(2), 1);
        due(14, "unique(3) of 0010", x.unique(3), RepeatFinder.NONE);
        due(14, "unique(0) of an empty text", with("", "").unique(0), RepeatFinder.BAD);
        due(14, "unique(0) of one letter", with("1", "").unique(0), 1);
        RepeatFinder full = with("222222222222222222222222", "");
        due(14, "unique(0) of 24 equal letters", full.unique(0), 24);
        due(14, "unique(23) of 24 equal letters", full.unique(23), RepeatFinder.NONE);
        due(14, "unique(24) of 24 equal letters", full.unique(24), RepeatFinder.BAD);
    }

    private static void orderAndLimits() {
        RepeatFinder x = with("012301230123012301230123", "012301230123");
        int[] refused = {4, -1, 0, Integer.MAX_VALUE, Integer.MIN_VALUE};
        for (int letter : refused) {
            due(15, "type(" + letter + ") when full", x.type(letter), RepeatFinder.FULL);
            due(15, "ask(" + letter + ") when full", x.ask(letter), RepeatFinder.FULL);
        }
        due(15, "count(), nothing changed", x.count(), 4);
        due(15, "longest(1), nothing changed", x.longest(1), 24);
        due(15, "shift(), nothing changed", x.shift(), 23);
        due(15, "wipe(), nothing changed", x.wipe(), 12);
        RepeatFinder y = with("01", "1");
        due(15, "type(4)", y.type(4), RepeatFinder.BAD);
        due(15, "ask(4)", y.ask(4), RepeatFinder.BAD);
        due(15, "count() after refused letters", y.count(), 1);
        due(15, "type(1) after a refused letter", y.type(1), 3);
        due(15, "ask(1) after a refused letter", y.ask(1), 2);
        due(15, "place() after refused letters", y.place(), 1);
    }

    public static void main(String[] args) {
        newObject();
        type();
        shift();
        ask();
        wipe();
        count();
        place();
        words();
        longest();
        repeats();
        word();
        rank();
        common();
        unique();
        orderAndLimits();
        System.out.println(wrong == 0 ? "all promises hold" : wrong + " answers are not as due");
        if (wrong != 0) {
            System.exit(1);
        }
    }
}
