import java.util.ArrayList;
import java.util.List;
import java.util.TreeSet;

// Compares every answer with a model over strings, which follows the
// document's terms word by word: on all short texts, and on long runs of
// mixed calls (the calls are drawn by a fixed rule, the same in every run).
public final class ModelTest {
    private static int wrong = 0;
    private static long drawn = 1;

    private static String text = "";
    private static String probe = "";
    private static RepeatFinder x = new RepeatFinder();
    private static int used = 0;
    // Built anew after each change of the text, not for each call.
    private static List<String> inOrder = new ArrayList<>();

    private static void due(String call, int got, int want) {
        used++;
        if (got != want) {
            wrong++;
            if (wrong <= 20) {
                System.out.println("text " + text + ", probe " + probe + ": " + call
                        + " answered " + got + ", due is " + want);
            }
        }
    }

    private static int draw(int bound) {
        drawn = drawn * 6364136223846793005L + 1442695040888963407L;
        return (int) ((drawn >>> 33) % bound);
    }

    private static TreeSet<String> wordsOf(String s) {
        TreeSet<String> all = new TreeSet<>();
        for (int from = 0; from < s.length(); from++) {
            for (int to = from + 1; to <= s.length(); to++) {
                all.add(s.substring(from, to));
            }
        }
        return all;
    }

    private static int countOf(String word) {
        int found = 0;
        for (int at = text.indexOf(word); at >= 0; at = text.indexOf(word, at + 1)) {
            found++;
        }
        return found;
    }

    // The document promises nothing after an object's 512th call, so a new
    // object with the same letters takes over before that.
    private static void makeRoomFor(int calls) {
        if (used + calls <= 512) {
            return;
        }
        x = new RepeatFinder();
        for (char c : text.toCharArray()) {
            x.type(c - '0');
        }
        for (char c : probe.toCharArray()) {
            x.ask(c - '0');
        }
        used = text.length() + probe.length();
    }

    private static void start() {
        x = new RepeatFinder();
        used = 0;
        probe = "";
        setText("");
    }

    private static void setText(String next) {
        text = next;
        inOrder = new ArrayList<>(wordsOf(text));
    }

    private static void type(int letter) {
        int want = RepeatFinder.BAD;
        String next = text;
        if (text.length() == 24) {
            want = RepeatFinder.FULL;
        } else if (letter >= 0 && letter <= 3) {
            next = text + letter;
            want = next.length();
        }
        due("type(" + letter + ")", x.type(letter), want);
        setText(next);
    }

    private static void ask(int letter) {
        int want = RepeatFinder.BAD;
        String next = probe;
        if (probe.length() == 12) {
            want = RepeatFinder.FULL;
        } else if (letter >= 0 && letter <= 3) {
            next = probe + letter;
            want = next.length();
        }
        due("ask(" + letter + ")", x.ask(letter), want);
        probe = next;
    }

    private static void shift() {
        due("shift()", x.shift(), text.isEmpty() ? RepeatFinder.BAD : text.length() - 1);
        setText(text.isEmpty() ? text : text.substring(1));
    }

    private static void wipe() {
        due("wipe()", x.wipe(), probe.length());
        probe = "";
    }

    private static void longest(int times) {
        int want = RepeatFinder.BAD;
        if (times >= 1 && times <= 24) {
            want = 0;
            for (String word : inOrder) {
                if (countOf(word) >= times && word.length() > want) {
                    want = word.length();
                }
            }
        }
        due("longest(" + times + ")", x.longest(times), want);
    }

    private static boolean isMaximalRepeat(String word) {
        int times = countOf(word);
        boolean maximal = times >= 2;
        for (int letter = 0; letter <= 3; letter++) {
            maximal = maximal && countOf(letter + word) < times && countOf(word + letter) < times;
        }
        return maximal;
    }

    private static void repeats() {
        int want = 0;
        for (String word : inOrder) {
            if (isMaximalRepeat(word)) {
                want++;
            }
        }
        due("repeats()", x.repeats(), want);
    }

    private static void word(int k) {
        int want = RepeatFinder.NONE;
        if (k >= 0 && k < inOrder.size()) {
            String word = inOrder.get(k);
            want = 25 * text.indexOf(word) + word.length();
        }
        due("word(" + k + ")", x.word(k), want);
    }

    private static void unique(int p) {
        int want = RepeatFinder.BAD;
        if (p >= 0 && p < text.length()) {
            want = RepeatFinder.NONE;
            for (int to = text.length(); to > p; to--) {
                if (countOf(text.substring(p, to)) == 1) {
                    want = to - p;
                }
            }
        }
        due("unique(" + p + ")", x.unique(p), want);
    }

    private static void askAboutProbe() {
        boolean empty = probe.isEmpty();
        due("count()", x.count(), empty ? RepeatFinder.NONE : countOf(probe));
        due("place()", x.place(),
                empty || !text.contains(probe) ? RepeatFinder.NONE : text.indexOf(probe));
        int before = 0;
        for (String word : inOrder) {
            if (word.compareTo(probe) < 0) {
                before++;
            }
        }
        due("rank()", x.rank(), empty ? RepeatFinder.NONE : before);
        int best = 0;
        for (String word : wordsOf(probe)) {
            if (text.contains(word) && word.length() > best) {
                best = word.length();
            }
        }
        due("common()", x.common(), best);
    }

    private static void askAboutText() {
        makeRoomFor(2 + 26 + text.length() + 2);
        due("words()", x.words(), inOrder.size());
        repeats();
        for (int times = 0; times <= 25; times++) {
            longest(times);
        }
        for (int p = -1; p <= text.length(); p++) {
            unique(p);
        }
    }

    // Every text of up to five letters, each with every word of up to
    // three letters as the probe.
    private static void shortTexts() {
        for (int length = 0; length <= 5; length++) {
            for (int code = 0; code < 1 << (2 * length); code++) {
                start();
                for (int i = 0; i < length; i++) {
                    type((code >> (2 * i)) & 3);
                }
                askAboutText();
                for (int k = -1; k <= inOrder.size(); k++) {
                    word(k);
                }
                shortProbes();
            }
        }
    }

    private static void shortProbes() {
        for (int length = 0; length <= 3; length++) {
            for (int code = 0; code < 1 << (2 * length); code++) {
                makeRoomFor(1 + length + 4);
                wipe();
                for (int i = 0; i < length; i++) {
                    ask((code >> (2 * i)) & 3);
                }
                askAboutProbe();
            }
        }
    }

    // Few different letters make long repeats, so some runs use one or two.
    private static int drawLetter(int letters) {
        return draw(30) == 0 ? draw(9) - 3 : draw(letters);
    }

    private static void mixedRun(int letters) {
        start();
        for (int step = 0; step < 90; step++) {
            makeRoomFor(8);
            int choice = draw(20);
            if (choice < 11) {
                type(drawLetter(letters));
            } else if (choice < 16) {
                ask(drawLetter(letters));
            } else if (choice < 19) {
                shift();
            } else {
                wipe();
            }
            askAboutProbe();
            due("words()", x.words(), inOrder.size());
            word(draw(inOrder.size() + 3) - 1);
            unique(draw(text.length() + 2) - 1);
        }
        askAboutText();
    }

    // Words number k of a whole full text: all of them, and the two edges.
    private static void fullText(int letters) {
        start();
        while (text.length() < 24) {
            type(draw(letters));
        }
        for (int k = -1; k <= inOrder.size(); k++) {
            makeRoomFor(1);
            word(k);
        }
        while (!text.isEmpty()) {
            askAboutText();
            makeRoomFor(1);
            shift();
        }
        askAboutText();
    }

    public static void main(String[] args) {
        shortTexts();
        for (int run = 0; run < 200; run++) {
            mixedRun(1 + run % 4);
        }
        for (int run = 0; run < 40; run++) {
            fullText(1 + run % 4);
        }
        System.out.println(wrong == 0 ? "all answers are the model's" : wrong + " answers are not the model's");
        if (wrong != 0) {
            System.exit(1);
        }
    }
}
