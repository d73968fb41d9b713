/**
 * The bounds that the document names for the out: what is empty, the shortest and the longest of it, which words it
 * has, and what leaves it as it was.
 */
public class OutTest extends Kit {
    private static final int[] NO_WORDS = {LEAST, LEAST + 1, -(1 << 30), -(1 << 29), 1 - (1 << 29), -(1 << 28), -9, -8, -2, -1,
        23, 24, 25, 64, 1 << 28, (1 << 29) - 1, 1 << 29, (1 << 29) + 1, 1 << 30, (1 << 30) + 2, MOST - 1, MOST};

    /** "Eight bytes of the out, from 8 i on, the first one lowest, 0 behind its end; 0 when there are none". */
    private static void theOutIs(String what, Treegrab t, String text) {
        for (int i = 0; i < 23; i++) {
            int word = i;
            String eight = text.substring(Math.min(8 * i, text.length()), Math.min(8 * i + 8, text.length()));
            due(what + ", word " + i, packed(eight), () -> t.word(word));
        }
        for (int i : NO_WORDS) {
            due(what + ", word " + i, 0, () -> t.word(i));
        }
    }

    private static void shows(Treegrab t, int place, String text) {
        due("show of " + text, text.length(), () -> t.show(place));
        theOutIs("show of " + text, t, text);
    }

    /** "With an empty ... out". */
    private static void emptyAtFirst() {
        theOutIs("new", new Treegrab(), "");
        for (int place = 0; place < 3; place++) {
            Treegrab t = new Treegrab();
            shows(t, place, "");
        }
    }

    /** Promise 20, from one byte to 177: 20 labels of 6 bytes, 19 pairs of brackets and 19 blanks. */
    private static void theShortestAndTheLongest() {
        String longest = "(abcdef ".repeat(19) + "zyxwvu" + ")".repeat(19);
        same("the longest has", "177", "" + longest.length());
        String[] texts = {"a", "ab", "abcdef", "(a b)", "(a bc)", "(a bcd)", "(a bcde)", "(a b c d)", "(ab c d e f)", "(a b c d e f g)",
            "(a b (c d) e f)", "(a (b c) (d e))", "(a (b (c d) e) f)", "(abcdef" + " ghijkl".repeat(19) + ")",
            "(a (b (c (d e) f) g) (h (i (j k))) l)", longest};
        for (String text : texts) {
            for (int place = 0; place < 3; place++) {
                Treegrab t = new Treegrab();
                plant(t, place, text);
                shows(t, place, text);
            }
        }
        Treegrab t = new Treegrab();
        plant(t, 0, "\t( a\n(b)  ( c( d )e ) )\n");
        shows(t, 0, "(a b (c d e))");
        plant(t, 0, "(a)");
        shows(t, 0, "a");
    }

    /** What is longer leaves nothing behind what is shorter. */
    private static void oneAfterAnother() {
        String longest = "(zyxwvu ".repeat(19) + "abcdef" + ")".repeat(19);
        String[] texts = {longest, "(a b c d)", longest, "(a b)", longest, "a", longest, "(a b c d e)", longest, "(ab c)"};
        for (int i = 0; i + 1 < texts.length; i += 2) {
            Treegrab t = new Treegrab();
            plant(t, 0, texts[i]);
            plant(t, 1, texts[i + 1]);
            shows(t, 0, texts[i]);
            shows(t, 1, texts[i + 1]);
            shows(t, 0, texts[i]);
            due("the label 19", 6, () -> t.label(0, 19));
            theOutIs("label 19", t, "abcdef");
            shows(t, 0, texts[i]);
            shows(t, 2, "");
            shows(t, 0, texts[i]);
        }
    }

    /** Promise 21, of each length, behind longer and behind shorter ones. */
    private static void labels() {
        String[] labels = {"A", "z9", "Abc", "D0d0", "Efghi", "Z9z9z9"};
        for (int round = 0; round < 2; round++) {
            Treegrab t = new Treegrab();
            plant(t, 2, "(A z9 (Abc D0d0 Efghi) Z9z9z9)");
            for (int i = 0; i < labels.length; i++) {
                int node = round == 0 ? i : labels.length - 1 - i;
                due("label " + node, labels[node].length(), () -> t.label(2, node));
                theOutIs("label " + node, t, labels[node]);
            }
        }
    }

    /** Only show and label make the out another, and not when they are refused. */
    private static void whatLeavesTheOut() {
        Treegrab t = made(0, "(a b)", "a=x < b=y", "rename y c");
        t.show(0);
        int[] bad = {LEAST, -1, 3, MOST};
        for (int place : bad) {
            due("show at " + place, IOOBE, () -> t.show(place));
            due("label at " + place, IOOBE, () -> t.label(place, 0));
        }
        int[] noNodes = {LEAST, -1, 2, MOST};
        for (int node : noNodes) {
            due("label of " + node, IOOBE, () -> t.label(0, node));
            due("label of no tree", IOOBE, () -> t.label(1, node));
        }
        due("label of no tree", IOOBE, () -> t.label(1, 0));
        theOutIs("refused", t, "(a b)");
        t.matches(0);
        t.matchesByTrying(0);
        t.matchAt(0, 0, 1);
        t.matchAtByTrying(0, 0, 1);
        t.planAt(0, 0);
        t.edit(0);
        theOutIs("behind an edit", t, "(a b)");
        t.undo(0);
        plant(t, 0, "(x y z)");
        pattern(t, "x");
        script(t, "delete x");
        feed(t, "x");
        t.withLabel(0);
        feed(t, "x");
        t.withLabelByWalk(0);
        t.fault(true);
        t.nodes(0);
        t.parent(0, 1);
        t.children(0, 1);
        t.wordOf(0, 1, true);
        theOutIs("behind all others", t, "(a b)");
    }

    public static void main(String[] arguments) {
        emptyAtFirst();
        theShortestAndTheLongest();
        oneAfterAnother();
        labels();
        whatLeavesTheOut();
        end();
    }
}
