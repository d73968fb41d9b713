/**
 * The bounds that the document names for the tape, for who takes it over, for blanks and LABELs; every
 * byte is tried where what is due can be told byte by byte.
 */
public class TapeTest extends Kit {
    private static final int FULL = 600;
    private static final long BLANKS = 0x2020202020202020L;

    private static Treegrab withBlanks(int length) {
        Treegrab t = new Treegrab();
        for (int left = length; left > 0; left -= Math.min(8, left)) {
            t.feed(BLANKS, Math.min(8, left));
        }
        return t;
    }

    /** Promise 2: "if n is not 1 to 8". */
    private static void howManyBytes() {
        for (int n = -9; n <= 17; n++) {
            int some = n;
            Treegrab t = new Treegrab();
            due("first feed of " + n, n < 1 || n > 8 ? IAE : n, () -> t.feed(BLANKS, some));
            due("next feed of " + n, n < 1 || n > 8 ? IAE : 2 * n, () -> t.feed(BLANKS, some));
        }
        int[] bad = {LEAST, LEAST + 1, -256, 256 + 8, 1 << 16 | 1, MOST - 7, MOST};
        for (int n : bad) {
            due("feed of " + n, IAE, () -> new Treegrab().feed(BLANKS, n));
        }
    }

    /** Promise 2: "the n lowest of eight bytes come behind the tape, the lowest one first"; those above do not. */
    private static void theLowestBytes() {
        String text = "(ab (cde f) gh)  ";
        for (int n = 1; n <= 8; n++) {
            Treegrab t = new Treegrab();
            for (int i = 0; i < text.length(); i += n) {
                String some = text.substring(i, Math.min(i + n, text.length()));
                long above = some.length() == 8 ? 0 : -1L << 8 * some.length();
                t.feed(packed(some) | above, some.length());
            }
            due("nodes, fed by " + n, 4, () -> t.plant(0));
            same("tree, fed by " + n, "(ab (cde f) gh)", shown(t, 0));
        }
        for (int n = 1; n <= 8; n++) {
            Treegrab t = new Treegrab();
            int place = n + 1;
            feed(t, "  ");
            t.feed(packed(" ".repeat(n - 1) + "\u0080"), n);
            due("0x80 as the byte " + n, ISE, () -> t.plant(0));
            due("0x80 as the byte " + n + ", code", 1, () -> t.fault(false));
            due("0x80 as the byte " + n + ", place", place, () -> t.fault(true));
        }
    }

    /** "THE TAPE has 600 at most", promise 2: "if there would be more than 600". */
    private static void aFullTape() {
        for (int n = 1; n <= 8; n++) {
            int some = n;
            Treegrab fits = withBlanks(FULL - n);
            due(n + " that make 600", FULL, () -> fits.feed(BLANKS, some));
            due("1 behind 600", ISE, () -> fits.feed(BLANKS, 1));
            due("8 behind 600", ISE, () -> fits.feed(BLANKS, 8));
            Treegrab over = withBlanks(FULL - n + 1);
            due(n + " that make 601", ISE, () -> over.feed(BLANKS, some));
            int left = n - 1;
            if (left > 0) {
                due("none of them came", FULL, () -> over.feed(BLANKS, left));
            }
        }
        Treegrab full = withBlanks(FULL);
        due("0 behind 600 is no number first", IAE, () -> full.feed(BLANKS, 0));
        due("9 behind 600 is no number first", IAE, () -> full.feed(BLANKS, 9));
        due("least behind 600 is no number first", IAE, () -> full.feed(BLANKS, LEAST));
        due("most behind 600 is no number first", IAE, () -> full.feed(BLANKS, MOST));
        due("600 blanks end at 600", ISE, () -> full.plant(0));
        due("600 blanks, code", 1, () -> full.fault(false));
        due("600 blanks, place", FULL, () -> full.fault(true));
        Treegrab last = withBlanks(FULL - 1);
        due("the 600th byte", FULL, () -> last.feed('a', 1));
        due("the 600th byte is read", 1, () -> last.plant(0));
        Treegrab wrong = withBlanks(FULL - 1);
        wrong.feed(')', 1);
        due("a wrong 600th byte", ISE, () -> wrong.plant(0));
        due("a wrong 600th byte, place", FULL - 1, () -> wrong.fault(true));
        faulty(TREE, "a".repeat(FULL), 2, 0);
        faulty(TREE, "(a" + " ".repeat(FULL - 2), 1, FULL);
        whole(TREE, "a" + " ".repeat(FULL - 1), 1);
        whole(SCRIPT, "\n".repeat(FULL), 0);
        whole(PATTERN, "a" + "|a".repeat((FULL - 1) / 2), 1);
        faulty(PATTERN, "|a".repeat(FULL / 2), 1, 0);
    }

    /** A refused feed leaves the tape as it was, byte by byte. */
    private static void aRefusedFeed() {
        Treegrab t = new Treegrab();
        feed(t, "(ab ");
        due("n 0", IAE, () -> t.feed(packed("x"), 0));
        due("n 9", IAE, () -> t.feed(packed("xxxxxxxx"), 9));
        feed(t, "cd)");
        due("whole again", 2, () -> t.plant(0));
        same("whole again", "(ab cd)", shown(t, 0));
        Treegrab full = new Treegrab();
        feed(full, "abcd " + " ".repeat(FULL - 6));
        due("too many", ISE, () -> full.feed(packed("xx"), 2));
        due("the last one", FULL, () -> full.feed('\n', 1));
        due("too many", ISE, () -> full.feed('x', 1));
        due("not spoilt", 1, () -> full.plant(0));
        same("not spoilt", "abcd", shown(full, 0));
    }

    private interface Taker {
        long take(Treegrab t);
    }

    private static void usedUp(String what, String text, Object due, Taker taker) {
        Treegrab t = new Treegrab();
        feed(t, text);
        due(what, due, () -> taker.take(t));
        due(what + " uses up the tape", 1, () -> t.feed('a', 1));
    }

    private static void notUsedUp(String what, Object due, Taker taker) {
        Treegrab t = new Treegrab();
        feed(t, "(a ");
        due(what, due, () -> taker.take(t));
        due(what + " leaves the tape", 5, () -> t.feed(packed("b)"), 2));
        due(what + " leaves its bytes", 2, () -> t.plant(0));
    }

    /** "Who takes it over uses it up, also a call that throws"; who does not take it over, does not. */
    private static void whoTakesItOver() {
        int[] noPlaces = {LEAST, -1, 3, MOST};
        usedUp("plant", "(a b)", 2, t -> t.plant(2));
        usedUp("plant of a fault", "(a b", ISE, t -> t.plant(2));
        usedUp("pattern", "a", 1, Treegrab::pattern);
        usedUp("pattern of a fault", "a <", ISE, Treegrab::pattern);
        usedUp("script", "delete x", 1, Treegrab::script);
        usedUp("script of a fault", "delete", ISE, Treegrab::script);
        usedUp("withLabel", "a", 0, t -> t.withLabel(0));
        usedUp("withLabel of no LABEL", "(1", 0, t -> t.withLabel(0));
        usedUp("withLabelByWalk", "a", 0, t -> t.withLabelByWalk(0));
        usedUp("withLabelByWalk of no LABEL", "(1", 0, t -> t.withLabelByWalk(0));
        for (int bad : noPlaces) {
            usedUp("plant at " + bad, "(a b)", IOOBE, t -> t.plant(bad));
            usedUp("plant of a fault at " + bad, "(a b", IOOBE, t -> t.plant(bad));
            usedUp("withLabel at " + bad, "a", IOOBE, t -> t.withLabel(bad));
            usedUp("withLabelByWalk at " + bad, "a", IOOBE, t -> t.withLabelByWalk(bad));
        }
        notUsedUp("fault", 0, t -> t.fault(true));
        notUsedUp("nodes", 0, t -> t.nodes(0));
        notUsedUp("parent", IOOBE, t -> t.parent(0, 0));
        notUsedUp("children", IOOBE, t -> t.children(0, 0));
        notUsedUp("wordOf", IOOBE, t -> t.wordOf(0, 0, true));
        notUsedUp("matches", 0, t -> t.matches(0));
        notUsedUp("matchesByTrying", 0, t -> t.matchesByTrying(0));
        notUsedUp("matchAt", IOOBE, t -> t.matchAt(0, 0, 0));
        notUsedUp("matchAtByTrying", IOOBE, t -> t.matchAtByTrying(0, 0, 0));
        notUsedUp("planAt", IOOBE, t -> t.planAt(0, 0));
        notUsedUp("edit", 0, t -> t.edit(0));
        notUsedUp("undo", ISE, t -> t.undo(0));
        notUsedUp("show", 0, t -> t.show(0));
        notUsedUp("label", IOOBE, t -> t.label(0, 0));
        notUsedUp("word", 0, t -> t.word(0));
    }

    private static boolean isBlank(int sign) {
        return sign == 9 || sign == 32 || sign == 10;
    }

    private static boolean isLetter(int sign) {
        return sign >= 97 && sign <= 122 || sign >= 65 && sign <= 90;
    }

    private static boolean isDigit(int sign) {
        return sign >= 48 && sign <= 57;
    }

    /** A text whose fault is of code 1, if it has one (place -1 for none). */
    private static void read(int taker, String text, int answer, int place) {
        if (place < 0) {
            whole(taker, text, answer);
        } else {
            faulty(taker, text, 1, place);
        }
    }

    /** Every byte inside a tree: "Blanks (9, 32, 10)", "one ends a label", "a .. z, A .. Z", digits behind. */
    private static void everyByteInATree() {
        for (int sign = 0; sign < 256; sign++) {
            char c = (char) sign;
            boolean ends = isBlank(sign) || c == '(';
            boolean goesOn = isLetter(sign) || isDigit(sign);
            String inside = "(a" + c + "b)";
            read(TREE, inside, goesOn ? 1 : 2, goesOn || isBlank(sign) ? -1 : c == '(' ? 5 : c == ')' ? 3 : 2);
            read(TREE, "" + c, 1, isLetter(sign) ? -1 : isBlank(sign) || c == '(' ? 1 : 0);
            read(TREE, "(a " + c, 1, ends || isLetter(sign) ? 4 : c == ')' ? -1 : 3);
            read(TREE, "a" + c, 1, goesOn || isBlank(sign) ? -1 : 1);
            read(TREE, "a " + c, 1, isBlank(sign) ? -1 : 2);
            read(TREE, c + "a", 1, isBlank(sign) || isLetter(sign) ? -1 : c == '(' ? 2 : 0);
        }
    }

    private static void everyByteInAPattern() {
        for (int sign = 0; sign < 256; sign++) {
            char c = (char) sign;
            boolean goesOn = isLetter(sign) || isDigit(sign);
            boolean operator = "<>.,$".indexOf(c) >= 0;
            boolean marks = "!?".indexOf(c) >= 0;
            boolean small = sign >= 97 && sign <= 122;
            boolean both = goesOn || operator || c == '|' || c == '=';
            read(PATTERN, "a" + c + "b", operator ? 2 : 1, both ? -1 : marks || isBlank(sign) ? 2 : 1);
            boolean begins = "!~=".indexOf(c) >= 0;
            read(PATTERN, "" + c, 1, isLetter(sign) || c == '*' ? -1 : isBlank(sign) || begins ? 1 : 0);
            read(PATTERN, "a=" + c, 1, small ? -1 : isBlank(sign) ? 3 : 2);
            read(PATTERN, "a=x" + c, 1, isBlank(sign) ? -1 : operator || marks ? 4 : 3);
            if (small && c != 'x') {
                faulty(PATTERN, "a=x<~" + c, 4, 5);
                faulty(PATTERN, "a=x<=" + c, 4, 5);
            } else {
                read(PATTERN, "a=x<~" + c, 2, small ? -1 : isBlank(sign) ? 6 : 5);
                read(PATTERN, "a=x<=" + c, 1, small ? -1 : isBlank(sign) ? 6 : 5);
            }
        }
    }

    private static void everyByteInAScript() {
        for (int sign = 0; sign < 256; sign++) {
            char c = (char) sign;
            boolean goesOn = isLetter(sign) || isDigit(sign);
            boolean small = sign >= 97 && sign <= 122;
            read(SCRIPT, "" + c, 0, isBlank(sign) ? -1 : 0);
            read(SCRIPT, "delete" + c + "x", 1, isBlank(sign) ? -1 : goesOn ? 0 : 6);
            read(SCRIPT, "delete " + c, 1, small ? -1 : isBlank(sign) ? 8 : 7);
            read(SCRIPT, "delete x" + c, 1, isBlank(sign) ? -1 : goesOn ? 7 : c == ';' ? 9 : 8);
            read(SCRIPT, "wrap x " + c, 1, isLetter(sign) ? -1 : isBlank(sign) ? 8 : 7);
            read(SCRIPT, "add a first " + c, 1, small ? -1 : isBlank(sign) ? 13 : 12);
            read(SCRIPT, "move x first" + c + "y", 1, isBlank(sign) ? -1 : goesOn ? 7 : 12);
        }
    }

    /** "At most 6 together": a LABEL of 1 to 6 bytes and of more, wherever one may stand. */
    private static void howLongALabelIs() {
        for (int length = 1; length <= 20; length++) {
            String label = "Z9a0z1B8b7".repeat(2).substring(0, length);
            labelled(TREE, "", label, "", 1);
            labelled(TREE, "(", label, ")", 1);
            labelled(TREE, "(a b ", label, "(c))", 4);
            labelled(PATTERN, "", label, "", 1);
            labelled(PATTERN, "!", label, "=x", 1);
            labelled(PATTERN, "a|b | ", label, "|c", 1);
            labelled(PATTERN, "a <(", label, "< c)", 3);
            labelled(PATTERN, "a !< !a| ", label, "", 1);
            labelled(SCRIPT, "rename x ", label, "", 1);
            labelled(SCRIPT, "delete x; wrap x ", label, ";excise x", 3);
            labelled(SCRIPT, "add ", label, " before x", 1);
        }
        // The name of a node is a single byte in a pattern, and a LABEL of one letter in a script.
        faulty(PATTERN, "a=abcdefg", 1, 3);
        faulty(SCRIPT, "delete abcdefg", 1, 7);
    }

    private static void labelled(int taker, String ahead, String label, String behind, int answer) {
        if (label.length() <= 6) {
            whole(taker, ahead + label + behind, answer);
        } else {
            faulty(taker, ahead + label + behind, 2, ahead.length());
            faulty(taker, ahead + label, 2, ahead.length());
        }
    }

    /** "Blanks may stand ahead of and behind all tokens and mean nothing". */
    private static void blanksMeanNothing() {
        String[] trees = {"a", "(|a|)", "(|a| |b|(|c|(|d|)|e|)|f|)"};
        int[] nodes = {1, 1, 6};
        String[] patterns = {"a|", "a|<|b", "!|a|=|x|!|<-1|(|~|x|=|y|$,,|*|)|?|>>|=|x", "a|=|x|<|(|b|<:|c|)"};
        int[] numbered = {1, 2, 1, 3};
        String[] scripts = {"delete| |x|", "rename| |x| |ab|;|add| |ab| |first| |x", "move| |x| |after| |y|;|excise| |z"};
        int[] edits = {1, 2, 2};
        String[] blanks = {"", " ", "\t", "\n", "\n\t  \n"};
        for (String blank : blanks) {
            for (int i = 0; i < trees.length; i++) {
                whole(TREE, blank + trees[i].replace("|", blank) + blank, nodes[i]);
            }
            for (int i = 0; i < patterns.length; i++) {
                whole(PATTERN, blank + patterns[i].replace("|", blank) + blank, numbered[i]);
            }
            for (int i = 0; i < scripts.length; i++) {
                whole(SCRIPT, blank + scripts[i].replace("|", blank) + blank, edits[i]);
            }
        }
        // but one ends a label, and stands in no operator
        whole(TREE, "(ab cd)", 2);
        faulty(TREE, "a b", 1, 2);
        faulty(PATTERN, "a b", 1, 2);
        faulty(PATTERN, "* < : *", 1, 4);
        faulty(PATTERN, "* < 1 *", 1, 4);
        faulty(PATTERN, "* <- 1 *", 1, 4);
        faulty(PATTERN, "* $ . *", 1, 4);
        faulty(PATTERN, "* . . *", 1, 4);
        faulty(PATTERN, "* , , *", 1, 4);
        faulty(PATTERN, "* < < *", 1, 4);
        faulty(PATTERN, "* > > *", 1, 4);
        faulty(SCRIPT, "de lete x", 1, 0);
        faulty(SCRIPT, "delete x y", 1, 9);
    }

    public static void main(String[] arguments) {
        howManyBytes();
        theLowestBytes();
        aFullTape();
        aRefusedFeed();
        whoTakesItOver();
        everyByteInATree();
        everyByteInAPattern();
        everyByteInAScript();
        howLongALabelIs();
        blanksMeanNothing();
        end();
    }
}
