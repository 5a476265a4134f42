import java.util.function.ToIntFunction;

// Each sentence of the document that names a boundary case has a method of
// its own here, which quotes the sentence and asks at both sides of the
// boundary. No object gets more than the 512 calls that the document allows.
public final class BoundaryTest {
    private static final int FULL = RepeatFinder.FULL;
    private static final int BAD = RepeatFinder.BAD;
    private static final int NONE = RepeatFinder.NONE;
    private static final int MIN = Integer.MIN_VALUE;
    private static final int MAX = Integer.MAX_VALUE;

    private static final String FULL_TEXT = "012301230123012301230123";
    private static final String FULL_PROBE = "321032103210";
    private static final String ZEROS = "000000000000000000000000";
    // Each pair of letters occurs in it, and no three letters occur twice.
    private static final String RICH_TEXT = "300010020030110121322331";

    // Just outside 0..3, far outside, and numbers whose low bits are a letter's.
    private static final int[] NO_LETTERS = {
        -1, 4, -2, 5, -3, 7, -4, 8, 10, 24, 127, -128, 256, 259, -253, 65536, 65537, -65533,
        MAX, MAX - 1, MIN, MIN + 1, MIN + 3,
    };

    private static int wrong = 0;
    private static String sentence = "";

    private static void about(String quoted) {
        sentence = quoted;
    }

    private static void due(String call, int got, int want) {
        if (got != want) {
            wrong++;
            System.out.println("\"" + sentence + "\": " + call + " answered " + got + ", due is " + want);
        }
    }

    private static void typeAll(RepeatFinder x, String letters) {
        for (char c : letters.toCharArray()) {
            x.type(c - '0');
        }
    }

    private static void askAll(RepeatFinder x, String letters) {
        for (char c : letters.toCharArray()) {
            x.ask(c - '0');
        }
    }

    private static RepeatFinder with(String text, String probe) {
        RepeatFinder x = new RepeatFinder();
        typeAll(x, text);
        askAll(x, probe);
        return x;
    }

    private static RepeatFinder with(String text) {
        return with(text, "");
    }

    // Reads the text off the object, letter by letter, and uses the object up.
    private static void textIs(RepeatFinder x, String text) {
        x.wipe();
        for (int at = 0; at < text.length(); at++) {
            x.ask(text.charAt(at) - '0');
            due("place() of letter " + at + " of the text " + text, x.place(), 0);
            due("wipe() after it", x.wipe(), 1);
            due("shift() after it", x.shift(), text.length() - at - 1);
        }
        due("shift() behind the text " + text, x.shift(), BAD);
    }

    // Makes the text equal to the probe that is due, and uses the object up.
    private static void probeIs(RepeatFinder x, String probe) {
        for (int taken = 0; taken < 24; taken++) {
            x.shift();
        }
        typeAll(x, probe);
        due("place() in a text that is the probe " + probe, x.place(), probe.isEmpty() ? NONE : 0);
        due("wipe() of the probe " + probe, x.wipe(), probe.length());
    }

    private static void changesNothing(String text, String probe, String call,
            ToIntFunction<RepeatFinder> made, int want) {
        RepeatFinder x = with(text, probe);
        due(call, made.applyAsInt(x), want);
        textIs(x, text);
        RepeatFinder y = with(text, probe);
        due(call, made.applyAsInt(y), want);
        probeIs(y, probe);
    }

    // ---- What it is

    private static void fiveHundredTwelveCalls() {
        about("An object is used for at most 512 calls after it has been made");
        RepeatFinder x = with("012301230123012301230123", "01");
        for (int round = 0; round < 242; round++) {
            due("shift() in round " + round, x.shift(), 23);
            due("type() in round " + round, x.type(round % 4), 24);
        }
        // 242 letters went by, so the text is 230123..01
        due("call 511, place()", x.place(), 2);
        due("call 512, count()", x.count(), 6);
        RepeatFinder y = new RepeatFinder();
        for (int round = 0; round < 255; round++) {
            due("ask() in round " + round, y.ask(round % 4), 1);
            due("wipe() in round " + round, y.wipe(), 1);
        }
        due("call 511, type(3)", y.type(3), 1);
        due("call 512, word(0)", y.word(0), 1);
    }

    // ---- Terms

    private static void textRoom() {
        about("There are a TEXT of up to 24 letters");
        RepeatFinder x = with(FULL_TEXT.substring(1));
        due("type(3) as letter 24", x.type(3), 24);
        due("type(0) as letter 25", x.type(0), FULL);
        due("longest(1)", x.longest(1), 24);
        textIs(x, "123012301230123012301233");
    }

    private static void probeRoom() {
        about("and a PROBE of up to 12 letters");
        RepeatFinder x = with("", FULL_PROBE.substring(1));
        due("ask(3) as letter 12", x.ask(3), 12);
        due("ask(0) as letter 13", x.ask(0), FULL);
        probeIs(x, "210321032103");
    }

    private static void textAndProbeAreTwo() {
        about("There are a TEXT [...] and a PROBE [...]");
        RepeatFinder x = with(FULL_TEXT, "");
        due("ask(3), the text is full", x.ask(3), 1);
        RepeatFinder y = with("", FULL_PROBE);
        due("type(3), the probe is full", y.type(3), 1);
        textIs(with(FULL_TEXT, FULL_PROBE), FULL_TEXT);
        probeIs(with(FULL_TEXT, FULL_PROBE), FULL_PROBE);
    }

    private static void letters() {
        about("a letter is a number from 0 to 3");
        for (int letter = 0; letter <= 3; letter++) {
            due("type(" + letter + ")", new RepeatFinder().type(letter), 1);
            due("ask(" + letter + ")", new RepeatFinder().ask(letter), 1);
            for (int other = 0; other <= 3; other++) {
                due("count() of " + other + " in " + letter,
                        with("" + letter, "" + other).count(), letter == other ? 1 : 0);
            }
        }
    }

    private static void placesFromZero() {
        about("places are numbered from 0");
        due("place() of the first letter", with("0111", "0").place(), 0);
        due("place() of the last of 24 letters", with(ZEROS.substring(1) + "2", "2").place(), 23);
        due("unique(0)", with("0111").unique(0), 1);
        due("word(0) of one letter", with("0").word(0), 1);
    }

    private static void noEmptyWord() {
        about("A WORD is a list of one letter or more");
        due("words() of one letter", with("1").words(), 1);
        due("words() of no letter", with("").words(), 0);
        due("word(0) is not empty", with("1").word(0), 1);
        due("rank() counts no empty word", with("1", "1").rank(), 0);
        due("repeats() counts no empty word", with("01").repeats(), 0);
        due("longest(24) finds no empty word", with("0").longest(24), 0);
        due("unique(1) of 10 takes one letter or more", with("10").unique(1), 1);
    }

    private static void noWordPastTheEnd() {
        about("its letters are the text's letters from place p on");
        due("count() of 00 in 10", with("10", "00").count(), 0);
        due("place() of 00 in 10", with("10", "00").place(), NONE);
        due("count() of 30 in 0123, no way round to the start", with("0123", "30").count(), 0);
        RepeatFinder x = with("1000", "000");
        x.shift();
        due("count() of 000 after a shift", x.count(), 1);
        x.shift();
        due("count() of 000 after two shifts", x.count(), 0);
        due("words() after two shifts", x.words(), 2);
        // The probe's letters must not be taken for letters behind a full text.
        RepeatFinder full = with(ZEROS, "0");
        due("count() of 0 in a full text", full.count(), 24);
        due("unique(0) in a full text", full.unique(0), 24);
        due("repeats() in a full text", full.repeats(), 23);
        due("words() in a full text", full.words(), 24);
    }

    private static void overlapping() {
        about("its COUNT is the number of places at which it occurs");
        due("count() of 00 in 000", with("000", "00").count(), 2);
        due("count() of 0101 in 01010101", with("01010101", "0101").count(), 3);
        due("count() of 12 zeros in 24", with(ZEROS, ZEROS.substring(12)).count(), 13);
    }

    private static void wordsHaveACountOfOne() {
        about("The words of the text are those with a count of at least 1");
        due("words() of 0, count 1", with("0").words(), 1);
        due("words() of 00, counts 2 and 1", with("00").words(), 2);
        due("words() with a probe that is no word", with("00", "1").words(), 2);
        due("word(2) with a probe that is no word", with("00", "1").word(2), NONE);
    }

    private static void orderAtTheFirstDifference() {
        about("the smaller letter at the first place where they differ first");
        due("word(0) of 10", with("10").word(0), 26);
        due("word(1) of 10", with("10").word(1), 1);
        due("rank() of 3 behind the longer 23", with("23", "3").rank(), 2);
        due("rank() of 12 in 110", with("110", "12").rank(), 5);
        due("rank() of 13 in 20, a smaller letter behind the first difference", with("20", "13").rank(), 1);
        due("rank() of 103 in 1021, the first difference at the end", with("1021", "103").rank(), 7);
    }

    private static void beginningComesBefore() {
        about("a word that is the beginning of another one before it");
        due("word(0) of 000", with("000").word(0), 1);
        due("word(1) of 000", with("000").word(1), 2);
        due("word(2) of 000", with("000").word(2), 3);
        due("rank() of 00 in 000", with("000", "00").rank(), 1);
        due("rank() of 0000 in 000", with("000", "0000").rank(), 3);
    }

    private static void repeatHasACountOfTwo() {
        about("its count is at least 2");
        due("repeats() of 0, count 1", with("0").repeats(), 0);
        due("repeats() of 00, count 2", with("00").repeats(), 1);
        due("repeats() of 0123, counts 1", with("0123").repeats(), 0);
        due("repeats() of 0102030, count 4", with("0102030").repeats(), 1);
    }

    private static void repeatAndALetterAround() {
        about("putting one letter in front of it, or one behind it, has a smaller count");
        due("repeats() of 1012, 1 alone", with("1012").repeats(), 1);
        due("repeats() of 201203, 20 alone and 2, 0 are not", with("201203").repeats(), 1);
        due("repeats() of 102302, 02 alone and 0, 2 are not", with("102302").repeats(), 1);
        due("repeats() of 101, at the start and at the end", with("101").repeats(), 1);
        due("repeats() of 11, the same letter around it", with("11").repeats(), 1);
        due("repeats() of 01101, 01 and 1", with("01101").repeats(), 2);
        due("repeats() of 0101, no letter at its start counts", with("0101").repeats(), 1);
    }

    // ---- Promise 1

    private static void newTextIsEmpty() {
        about("1: Text [is] empty");
        RepeatFinder x = new RepeatFinder();
        due("words()", x.words(), 0);
        due("word(0)", x.word(0), NONE);
        due("longest(1)", x.longest(1), 0);
        due("repeats()", x.repeats(), 0);
        due("unique(0)", x.unique(0), BAD);
        due("shift()", x.shift(), BAD);
        due("ask(0)", x.ask(0), 1);
        due("count()", x.count(), 0);
        due("place()", x.place(), NONE);
        due("rank()", x.rank(), 0);
        due("common()", x.common(), 0);
    }

    private static void newProbeIsEmpty() {
        about("1: [the] probe [is] empty");
        RepeatFinder x = new RepeatFinder();
        due("count()", x.count(), NONE);
        due("place()", x.place(), NONE);
        due("rank()", x.rank(), NONE);
        due("common()", x.common(), 0);
        due("wipe()", x.wipe(), 0);
        due("type(0)", x.type(0), 1);
        due("common() with a text", x.common(), 0);
    }

    private static void newObjectBesideAnother() {
        about("1: Text and probe are empty");
        RepeatFinder used = with(FULL_TEXT, FULL_PROBE);
        RepeatFinder x = new RepeatFinder();
        due("shift() beside a full object", x.shift(), BAD);
        due("wipe() beside a full object", x.wipe(), 0);
        due("shift() of the full object", used.shift(), 23);
        due("wipe() of the full object", used.wipe(), 12);
    }

    // ---- Promise 2

    private static void typeWhenFull() {
        about("2: 24 letters are there: FULL");
        for (int letter = 0; letter <= 3; letter++) {
            RepeatFinder x = with(FULL_TEXT.substring(1));
            due("type(" + letter + ") of letter 24", x.type(letter), 24);
            due("type(" + letter + ") of letter 25", x.type(letter), FULL);
            due("type(" + letter + ") once more", x.type(letter), FULL);
            due("shift() makes room", x.shift(), 23);
            due("type(" + letter + ") into the room", x.type(letter), 24);
            due("type(" + letter + ") when full again", x.type(letter), FULL);
        }
    }

    private static void typeOfNoLetter() {
        about("2: letter outside 0..3: BAD");
        for (int letter : NO_LETTERS) {
            due("type(" + letter + ") into an empty text", with("").type(letter), BAD);
            due("type(" + letter + ") behind 23 letters", with(FULL_TEXT.substring(1)).type(letter), BAD);
        }
    }

    private static void typeAnswers() {
        about("2: Else answers the number of letters");
        RepeatFinder x = new RepeatFinder();
        for (int number = 1; number <= 24; number++) {
            due("type(3) of letter " + number, x.type(3), number);
        }
        RepeatFinder y = with("01");
        y.shift();
        y.shift();
        due("type(0) into a text that became empty", y.type(0), 1);
    }

    private static void typeAtTheEnd() {
        about("2: Adds a letter at the end of the text");
        RepeatFinder x = with("");
        x.type(2);
        textIs(x, "2");
        RepeatFinder y = with(FULL_TEXT.substring(0, 23));
        y.type(0);
        textIs(y, "012301230123012301230120");
        RepeatFinder z = with(FULL_TEXT);
        z.shift();
        z.type(3);
        textIs(z, "123012301230123012301233");
    }

    // ---- Promise 3

    private static void shiftTakesTheFirst() {
        about("3: Takes the first letter of the text away");
        RepeatFinder one = with("3", "3");
        one.shift();
        due("count() when the one letter went", one.count(), 0);
        RepeatFinder full = with(FULL_TEXT);
        full.shift();
        textIs(full, FULL_TEXT.substring(1));
    }

    private static void shiftAnswers() {
        about("3: answers the number of letters left");
        RepeatFinder x = with(FULL_TEXT);
        for (int left = 23; left >= 0; left--) {
            due("shift()", x.shift(), left);
        }
    }

    private static void shiftOfNone() {
        about("3: BAD if there was none");
        changesNothing("", "", "shift() of an empty text", RepeatFinder::shift, BAD);
        changesNothing("", FULL_PROBE, "shift() of an empty text", RepeatFinder::shift, BAD);
        RepeatFinder x = with("0");
        due("shift() of one letter", x.shift(), 0);
        due("shift() of none", x.shift(), BAD);
        due("shift() of none again", x.shift(), BAD);
        due("type(1) after it", x.type(1), 1);
        due("shift() after it", x.shift(), 0);
    }

    // ---- Promise 4

    private static void askWhenFull() {
        about("4: 12 letters are there: FULL");
        for (int letter = 0; letter <= 3; letter++) {
            RepeatFinder x = with("", FULL_PROBE.substring(1));
            due("ask(" + letter + ") of letter 12", x.ask(letter), 12);
            due("ask(" + letter + ") of letter 13", x.ask(letter), FULL);
            due("ask(" + letter + ") once more", x.ask(letter), FULL);
            due("wipe() makes room", x.wipe(), 12);
            due("ask(" + letter + ") into the room", x.ask(letter), 1);
        }
    }

    private static void askOfNoLetter() {
        about("4: letter outside 0..3: BAD");
        for (int letter : NO_LETTERS) {
            due("ask(" + letter + ") into an empty probe", with("").ask(letter), BAD);
            due("ask(" + letter + ") behind 11 letters", with("", FULL_PROBE.substring(1)).ask(letter), BAD);
        }
    }

    private static void askAnswers() {
        about("4: Else answers its number of letters");
        RepeatFinder x = with("01");
        for (int number = 1; number <= 12; number++) {
            due("ask(3) of letter " + number, x.ask(3), number);
        }
    }

    private static void askAtTheEnd() {
        about("4: Adds a letter at the end of the probe");
        RepeatFinder x = with("", "");
        x.ask(2);
        probeIs(x, "2");
        RepeatFinder y = with("", FULL_PROBE.substring(0, 11));
        y.ask(3);
        probeIs(y, "321032103213");
    }

    // ---- Promise 5

    private static void wipeMakesEmpty() {
        about("5: Makes the probe empty");
        String[] probes = {"", "3", FULL_PROBE};
        for (String probe : probes) {
            RepeatFinder x = with("0123", probe);
            x.wipe();
            due("count() after wipe() of " + probe, x.count(), NONE);
            due("place() after wipe() of " + probe, x.place(), NONE);
            due("rank() after wipe() of " + probe, x.rank(), NONE);
            due("common() after wipe() of " + probe, x.common(), 0);
            due("ask(1) after wipe() of " + probe, x.ask(1), 1);
            due("place() of the new probe", x.place(), 1);
            textIs(x, "0123");
        }
    }

    private static void wipeAnswers() {
        about("5: answers how many letters it had");
        due("wipe() of none", with("0123").wipe(), 0);
        due("wipe() of one", with("0123", "2").wipe(), 1);
        RepeatFinder x = with("0123", FULL_PROBE);
        due("wipe() of twelve", x.wipe(), 12);
        due("wipe() again", x.wipe(), 0);
        RepeatFinder y = with("", FULL_PROBE);
        y.ask(0);
        due("wipe() after a refused letter", y.wipe(), 12);
    }

    // ---- Promise 6

    private static void countOfAnEmptyProbe() {
        about("6: NONE if the probe is empty");
        due("count(), text empty", with("").count(), NONE);
        due("count(), one letter", with("0").count(), NONE);
        due("count(), text full", with(FULL_TEXT).count(), NONE);
        RepeatFinder x = with("01");
        x.ask(4);
        due("count() after a refused first letter", x.count(), NONE);
    }

    private static void countAtItsEnds() {
        about("6: The count of the probe");
        due("count() in an empty text", with("", "0").count(), 0);
        due("count() of a letter that is not there", with("012", "3").count(), 0);
        due("count() of a probe longer than the text", with("00", "000").count(), 0);
        due("count() of the whole text", with("012", "012").count(), 1);
        due("count() at the start alone", with("0111", "0").count(), 1);
        due("count() at the end alone", with("1110", "10").count(), 1);
        due("count() in 24 equal letters", with(ZEROS, "0").count(), 24);
        due("count() of a full probe", with(FULL_TEXT, "012301230123").count(), 4);
    }

    // ---- Promise 7

    private static void placeOfAnEmptyProbe() {
        about("7: NONE if it is empty");
        due("place(), text empty", with("").place(), NONE);
        due("place(), one letter", with("0").place(), NONE);
        due("place(), text full", with(FULL_TEXT).place(), NONE);
    }

    private static void placeNowhere() {
        about("7: [NONE if it] occurs nowhere");
        due("place() in an empty text", with("", "0").place(), NONE);
        due("place() of a letter that is not there", with("012", "3").place(), NONE);
        due("place() of a probe longer than the text", with("00", "000").place(), NONE);
        due("place() of a full probe in a full text", with(FULL_TEXT, FULL_PROBE).place(), NONE);
        RepeatFinder x = with("01", "0");
        x.shift();
        due("place() of a letter that was shifted away", x.place(), NONE);
    }

    private static void smallestPlace() {
        about("7: The smallest place at which the probe occurs");
        due("place() in 24 equal letters", with(ZEROS, "0").place(), 0);
        due("place() of two", with("3010", "0").place(), 1);
        due("place() 23", with(ZEROS.substring(1) + "1", "1").place(), 23);
        due("place() of a full probe at the end",
                with("333333333333012301230123", "012301230123").place(), 12);
        due("place() of the whole text", with("012", "012").place(), 0);
    }

    // ---- Promise 8

    private static void numberOfWords() {
        about("8: The number of different words of the text");
        due("words() of an empty text", with("").words(), 0);
        due("words() of an empty text with a probe", with("", FULL_PROBE).words(), 0);
        due("words() of one letter", with("3").words(), 1);
        due("words() of 24 equal letters", with(ZEROS).words(), 24);
        // 4 letters, 16 pairs, and 22 + 21 + .. + 1 longer words
        due("words() of a text with the most words", with(RICH_TEXT).words(), 273);
        RepeatFinder x = with("01");
        x.shift();
        x.shift();
        due("words() of a text that became empty", x.words(), 0);
    }

    // ---- Promise 9

    private static void longestOutside() {
        about("9: BAD for times outside 1..24");
        int[] outside = {0, 25, -1, 26, -24, 256 + 1, 65536 + 1, MAX, MIN, MIN + 1};
        String[] texts = {"", "0", "0101", ZEROS, RICH_TEXT};
        for (String text : texts) {
            for (int times : outside) {
                due("longest(" + times + ") of " + text, with(text).longest(times), BAD);
            }
        }
    }

    private static void longestAtTheEnds() {
        about("9: The number of letters of a longest word with a count of at least times");
        due("longest(1) of one letter", with("2").longest(1), 1);
        due("longest(1) of 24 letters", with(RICH_TEXT).longest(1), 24);
        due("longest(2), no three letters occur twice", with(RICH_TEXT).longest(2), 2);
        for (int times = 1; times <= 24; times++) {
            due("longest(" + times + ") of 24 equal letters", with(ZEROS).longest(times), 25 - times);
        }
        due("longest(2), the word's count is 3", with("0102030").longest(2), 1);
        due("longest(3), the word's count is 4", with("0102030").longest(3), 1);
        due("longest(4), the word's count is 4", with("0102030").longest(4), 1);
    }

    private static void longestOfNone() {
        about("9: 0 if there is none");
        due("longest(1) of an empty text", with("").longest(1), 0);
        due("longest(24) of an empty text", with("").longest(24), 0);
        due("longest(1) of an empty text with a probe", with("", "00").longest(1), 0);
        due("longest(2) of different letters", with("0123").longest(2), 0);
        due("longest(5), the greatest count is 4", with("0102030").longest(5), 0);
        due("longest(24) of 23 equal letters", with(ZEROS.substring(1)).longest(24), 0);
        due("longest(24) of 23 equal letters and one", with(ZEROS.substring(1) + "1").longest(24), 0);
    }

    // ---- Promise 10

    private static void numberOfRepeats() {
        about("10: The number of maximal repeats");
        due("repeats() of an empty text", with("").repeats(), 0);
        due("repeats() of an empty text with a probe", with("", "0000").repeats(), 0);
        due("repeats() of one letter", with("3").repeats(), 0);
        due("repeats() of two equal letters", with("33").repeats(), 1);
        due("repeats() of 24 equal letters", with(ZEROS).repeats(), 23);
        due("repeats() of 24 letters, four by four", with(FULL_TEXT).repeats(), 5);
        due("repeats() of two equal halves", with("012332100123012332100123").repeats(), 6);
    }

    // ---- Promise 11

    private static void wordsFromZero() {
        about("11: Word number k, from 0, in order");
        due("word(0) of one letter", with("3").word(0), 1);
        RepeatFinder x = with("10");
        due("word(0) of 10: 0", x.word(0), 26);
        due("word(1) of 10: 1", x.word(1), 1);
        due("word(2) of 10: 10", x.word(2), 2);
        due("word(272), the last one: 331", with(RICH_TEXT).word(272), 25 * 21 + 3);
        due("word(0), the first one: 0", with(RICH_TEXT).word(0), 25 * 1 + 1);
    }

    private static void wordsCode() {
        about("11: 25 times its smallest place plus its number of letters");
        due("smallest place of two", with("1010").word(0), 26);
        due("place 0, 24 letters", with(ZEROS).word(23), 24);
        due("place 23, 1 letter", with("111111111111111111111110").word(0), 25 * 23 + 1);
        due("place 1, 23 letters", with("111111111111111111111110").word(44), 25 + 23);
    }

    private static void noWordK() {
        about("11: NONE if there is no word k");
        int[] never = {-1, -2, -25, 300, 301, 512, 65536, MAX, MIN, MIN + 1};
        String[] texts = {"", "0", "0101", ZEROS, RICH_TEXT};
        int[] numbers = {0, 1, 7, 24, 273};
        for (int i = 0; i < texts.length; i++) {
            due("word() behind the last of " + texts[i], with(texts[i]).word(numbers[i]), NONE);
            due("word() two behind the last of " + texts[i], with(texts[i]).word(numbers[i] + 1), NONE);
            for (int k : never) {
                due("word(" + k + ") of " + texts[i], with(texts[i]).word(k), NONE);
            }
        }
        RepeatFinder x = with("0");
        x.shift();
        due("word(0) of a text that became empty", x.word(0), NONE);
    }

    // ---- Promise 12

    private static void rankItself() {
        about("12: the probe itself, if it is one of them, is not counted");
        due("rank() of the one word", with("2", "2").rank(), 0);
        due("rank() of the first word", with("0101", "0").rank(), 0);
        due("rank() of the last word", with("0101", "101").rank(), 6);
        due("rank() of a word with a count of 13", with(ZEROS, ZEROS.substring(12)).rank(), 11);
    }

    private static void rankBefore() {
        about("12: The number of different words of the text that come before the probe in order");
        due("rank() in an empty text", with("", "3").rank(), 0);
        due("rank() before all", with("11", "0").rank(), 0);
        due("rank() behind all", with("11", "2").rank(), 2);
        due("rank() behind all 273", with(RICH_TEXT, "333333333333").rank(), 273);
        due("rank() before all 273", with("123", "000000000000").rank(), 0);
        due("rank() behind its own beginning", with("11", "111").rank(), 2);
        due("rank() before words that begin with it", with("012", "01").rank(), 1);
        // 0 00 001 0010 00100 01 010 0100
        due("rank() counts a word with two places once", with("00100", "1").rank(), 8);
    }

    private static void rankOfAnEmptyProbe() {
        about("12: NONE if the probe is empty");
        due("rank(), text empty", with("").rank(), NONE);
        due("rank(), one letter", with("0").rank(), NONE);
        due("rank(), text full", with(FULL_TEXT).rank(), NONE);
    }

    // ---- Promise 13

    private static void commonOfNone() {
        about("13: 0 if there is none");
        due("common(), both empty", with("").common(), 0);
        due("common(), probe empty", with(FULL_TEXT).common(), 0);
        due("common(), text empty", with("", FULL_PROBE).common(), 0);
        due("common(), no letter in both", with("0101", "2323").common(), 0);
        RepeatFinder x = with("01", "0");
        x.shift();
        due("common(), the letter was shifted away", x.common(), 0);
    }

    private static void commonAtTheEnds() {
        about("13: The number of letters of a longest word that occurs in the text and in the probe");
        due("common() of one letter each", with("3", "3").common(), 1);
        due("common() of a full probe at the start", with("012301230123" + "333333333333", "012301230123").common(), 12);
        due("common() of a full probe at the end", with("333333333333" + "012301230123", "012301230123").common(), 12);
        due("common() of a text shorter than the probe", with("12", FULL_PROBE).common(), 1);
        due("common() of a whole text in the probe", with("2103", FULL_PROBE).common(), 4);
        due("common() of the text's end and the probe's start", with("3301", "0122").common(), 2);
        due("common() of the text's start and the probe's end", with("0133", "2201").common(), 2);
        due("common() of full text and full probe", with(FULL_TEXT, FULL_PROBE).common(), 1);
        due("common() that does not run past the probe", with("0000", "00").common(), 2);
        due("common() that does not run past the text", with("00", "0000").common(), 2);
    }

    // ---- Promise 14

    private static void uniqueOfNoPlace() {
        about("14: the text has no place p: BAD");
        int[] never = {-1, -2, 24, 25, 256, 65536, MAX, MIN, MIN + 1};
        String[] texts = {"", "0", "00", "0123", ZEROS, RICH_TEXT};
        for (String text : texts) {
            due("unique(" + text.length() + ") of " + text, with(text).unique(text.length()), BAD);
            for (int p : never) {
                due("unique(" + p + ") of " + text, with(text).unique(p), BAD);
            }
        }
        RepeatFinder x = with("012");
        x.shift();
        due("unique(1) when two letters are left", x.unique(1), 1);
        due("unique(2) when two letters are left", x.unique(2), BAD);
    }

    private static void uniqueOfNone() {
        about("14: there is no such word: NONE");
        due("unique(0) of 00 has one", with("00").unique(0), 2);
        due("unique(1) of 00", with("00").unique(1), NONE);
        due("unique(1) of 01 has one", with("01").unique(1), 1);
        due("unique(2) of 0101", with("0101").unique(2), NONE);
        due("unique(1) of 24 equal letters", with(ZEROS).unique(1), NONE);
        due("unique(23) of 24 equal letters", with(ZEROS).unique(23), NONE);
        RepeatFinder x = with("010");
        due("unique(2) of 010", x.unique(2), NONE);
        x.shift();
        due("unique(1) when the other 0 was shifted away", x.unique(1), 1);
    }

    private static void uniqueTestsBadFirst() {
        about("14: Tested in this order");
        RepeatFinder x = with("00");
        due("unique(1): a place without such a word", x.unique(1), NONE);
        due("unique(2): neither place nor word", x.unique(2), BAD);
        due("unique(-1): neither place nor word", x.unique(-1), BAD);
        due("unique(0) of an empty text: neither", with("").unique(0), BAD);
    }

    private static void uniqueAtTheEnds() {
        about("14: The number of letters of the shortest word that occurs at place p and has the count 1");
        due("unique(0) of one letter", with("0").unique(0), 1);
        due("unique(0) of 24 equal letters", with(ZEROS).unique(0), 24);
        due("unique(23), the last place", with(ZEROS.substring(1) + "3").unique(23), 1);
        due("unique(0), up to the last letter", with(ZEROS.substring(1) + "3").unique(0), 23);
        due("unique(0) of 0123, not a longer word", with("0123").unique(0), 1);
    }

    // ---- Promise 15

    private static void fullBeforeBad() {
        about("15: type and ask: FULL is tested before BAD");
        for (int letter : NO_LETTERS) {
            due("type(" + letter + ") when full", with(FULL_TEXT).type(letter), FULL);
            due("ask(" + letter + ") when full", with("", FULL_PROBE).ask(letter), FULL);
            due("type(" + letter + "), the probe alone is full", with("0", FULL_PROBE).type(letter), BAD);
            due("ask(" + letter + "), the text alone is full", with(FULL_TEXT, "0").ask(letter), BAD);
        }
    }

    private static void refusedForNoRoom() {
        about("15: a refused letter changes nothing (FULL)");
        for (int letter = -1; letter <= 4; letter++) {
            int refused = letter;
            changesNothing(FULL_TEXT, FULL_PROBE, "type(" + letter + ") when full", x -> x.type(refused), FULL);
            changesNothing(FULL_TEXT, FULL_PROBE, "ask(" + letter + ") when full", x -> x.ask(refused), FULL);
            changesNothing(FULL_TEXT, "", "type(" + letter + ") when full", x -> x.type(refused), FULL);
            changesNothing("", FULL_PROBE, "ask(" + letter + ") when full", x -> x.ask(refused), FULL);
        }
    }

    private static void refusedForNoLetter() {
        about("15: a refused letter changes nothing (BAD)");
        String[] texts = {"", "0", "0123", FULL_TEXT.substring(1)};
        String[] probes = {"", "3", "3210", FULL_PROBE.substring(1)};
        for (int letter : NO_LETTERS) {
            for (int i = 0; i < texts.length; i++) {
                changesNothing(texts[i], probes[i], "type(" + letter + ")", x -> x.type(letter), BAD);
                changesNothing(texts[i], probes[i], "ask(" + letter + ")", x -> x.ask(letter), BAD);
            }
        }
    }

    // ---- Not promised

    private static void questionsChangeNothing() {
        about("Nothing is promised beyond the answers and state changes described above");
        changesNothing(RICH_TEXT, "1300", "count()", RepeatFinder::count, 0);
        changesNothing(RICH_TEXT, "1300", "place()", RepeatFinder::place, NONE);
        changesNothing(RICH_TEXT, "1300", "words()", RepeatFinder::words, 273);
        changesNothing(RICH_TEXT, "1300", "longest(1)", x -> x.longest(1), 24);
        changesNothing(RICH_TEXT, "1300", "longest(0)", x -> x.longest(0), BAD);
        changesNothing(ZEROS, "1300", "repeats()", RepeatFinder::repeats, 23);
        changesNothing(ZEROS, "1300", "word(23)", x -> x.word(23), 24);
        changesNothing(ZEROS, "1300", "word(24)", x -> x.word(24), NONE);
        changesNothing(ZEROS, "1300", "rank()", RepeatFinder::rank, 24);
        changesNothing(ZEROS, "1300", "common()", RepeatFinder::common, 2);
        changesNothing(ZEROS, "1300", "unique(0)", x -> x.unique(0), 24);
        changesNothing(ZEROS, "1300", "unique(1)", x -> x.unique(1), NONE);
        changesNothing(ZEROS, "1300", "unique(24)", x -> x.unique(24), BAD);
    }

    private static final Runnable[] TESTS = {
        BoundaryTest::fiveHundredTwelveCalls,
        BoundaryTest::textRoom,
        BoundaryTest::probeRoom,
        BoundaryTest::textAndProbeAreTwo,
        BoundaryTest::letters,
        BoundaryTest::placesFromZero,
        BoundaryTest::noEmptyWord,
        BoundaryTest::noWordPastTheEnd,
        BoundaryTest::overlapping,
        BoundaryTest::wordsHaveACountOfOne,
        BoundaryTest::orderAtTheFirstDifference,
        BoundaryTest::beginningComesBefore,
        BoundaryTest::repeatHasACountOfTwo,
        BoundaryTest::repeatAndALetterAround,
        BoundaryTest::newTextIsEmpty,
        BoundaryTest::newProbeIsEmpty,
        BoundaryTest::newObjectBesideAnother,
        BoundaryTest::typeWhenFull,
        BoundaryTest::typeOfNoLetter,
        BoundaryTest::typeAnswers,
        BoundaryTest::typeAtTheEnd,
        BoundaryTest::shiftTakesTheFirst,
        BoundaryTest::shiftAnswers,
        BoundaryTest::shiftOfNone,
        BoundaryTest::askWhenFull,
        BoundaryTest::askOfNoLetter,
        BoundaryTest::askAnswers,
        BoundaryTest::askAtTheEnd,
        BoundaryTest::wipeMakesEmpty,
        BoundaryTest::wipeAnswers,
        BoundaryTest::countOfAnEmptyProbe,
        BoundaryTest::countAtItsEnds,
        BoundaryTest::placeOfAnEmptyProbe,
        BoundaryTest::placeNowhere,
        BoundaryTest::smallestPlace,
        BoundaryTest::numberOfWords,
        BoundaryTest::longestOutside,
        BoundaryTest::longestAtTheEnds,
        BoundaryTest::longestOfNone,
        BoundaryTest::numberOfRepeats,
        BoundaryTest::wordsFromZero,
        BoundaryTest::wordsCode,
        BoundaryTest::noWordK,
        BoundaryTest::rankItself,
        BoundaryTest::rankBefore,
        BoundaryTest::rankOfAnEmptyProbe,
        BoundaryTest::commonOfNone,
        BoundaryTest::commonAtTheEnds,
        BoundaryTest::uniqueOfNoPlace,
        BoundaryTest::uniqueOfNone,
        BoundaryTest::uniqueTestsBadFirst,
        BoundaryTest::uniqueAtTheEnds,
        BoundaryTest::fullBeforeBad,
        BoundaryTest::refusedForNoRoom,
        BoundaryTest::refusedForNoLetter,
        BoundaryTest::questionsChangeNothing,
    };

    // A call that throws is wrong too, and must not hide the sentences behind it.
    private static void run(Runnable test) {
        try {
            test.run();
        } catch (RuntimeException thrown) {
            wrong++;
            System.out.println("\"" + sentence + "\": a call threw " + thrown);
        }
    }

    public static void main(String[] args) {
        for (Runnable test : TESTS) {
            run(test);
        }
        System.out.println(wrong == 0 ? "all boundary cases hold" : wrong + " answers are not as due");
        if (wrong != 0) {
            System.exit(1);
        }
    }
}
