/**
 * The bounds that the document names for the texts of patterns and scripts: how many nodes and EDITs they
 * have, OPERATORs as long as they can be, names, and which fault is told where.
 */
public class PatternTest extends Kit {
    private static final String SIGNS = "<>:.,$-0129";
    private static final String[] OPERATORS = {
        "<", "<<", "<:", "<1", "<2", "<9", "<-1", "<-2", "<-9", ">", ">>", ">:", ">1", ">2", ">9", ">-1", ">-2", ">-9",
        ".", "..", ",", ",,", "$", "$.", "$..", "$,", "$,,"};

    private static String longestOperator(String signs) {
        String longest = "";
        for (String operator : OPERATORS) {
            longest = signs.startsWith(operator) && operator.length() > longest.length() ? operator : longest;
        }
        return longest;
    }

    /** "An OPERATOR is one token, as long as it can be": every text of up to four signs, ahead of a node and at the end. */
    private static void operatorsAsLongAsCanBe() {
        for (int length = 1; length <= 4; length++) {
            int all = 1;
            for (int i = 0; i < length; i++) {
                all *= SIGNS.length();
            }
            for (int number = 0; number < all; number++) {
                StringBuilder signs = new StringBuilder();
                for (int i = 0, left = number; i < length; i++, left /= SIGNS.length()) {
                    signs.append(SIGNS.charAt(left % SIGNS.length()));
                }
                operatorAlone(signs.toString());
            }
        }
        for (int digit = 0; digit <= 9; digit++) {
            for (String begin : new String[] {"* <", "* >", "* <-", "* >-"}) {
                if (digit > 0) {
                    whole(PATTERN, begin + digit + "*", 2);
                    faulty(PATTERN, begin + digit + "0*", 1, begin.length() + 1);
                } else {
                    faulty(PATTERN, begin + "0*", 1, begin.length());
                }
            }
        }
    }

    private static void operatorAlone(String signs) {
        String operator = longestOperator(signs);
        boolean begun = operator.length() == 1 && signs.startsWith("-", 1) && "<>".contains(operator);
        int told = 2 + (begun ? 2 : operator.length());
        if (operator.length() == signs.length()) {
            whole(PATTERN, "* " + signs + "b", 2);
            faulty(PATTERN, "* " + signs, 1, 2 + signs.length());
            faulty(PATTERN, "* " + signs + " ", 1, 3 + signs.length());
        } else {
            faulty(PATTERN, "* " + signs + "b", 1, told);
            faulty(PATTERN, "* " + signs, 1, told);
        }
    }

    /** "With any number of RELATIONs, also none", and a node with nothing but a node around it. */
    private static void whatAPatternIs() {
        whole(PATTERN, "*", 1);
        whole(PATTERN, "* < (b)", 2);
        whole(PATTERN, "* < (b < c)", 3);
        whole(PATTERN, "* < (b < (c < (d)))", 4);
        faulty(PATTERN, "", 1, 0);
        faulty(PATTERN, "(", 1, 0);
        faulty(PATTERN, "(*)", 1, 0);
        faulty(PATTERN, "* (b)", 1, 2);
        faulty(PATTERN, "* < ()", 1, 5);
        faulty(PATTERN, "* < ((b))", 1, 5);
        faulty(PATTERN, "* < (b", 1, 6);
        faulty(PATTERN, "* < (b < (c)", 1, 12);
        faulty(PATTERN, "* < (b))", 1, 7);
        faulty(PATTERN, "* < b)", 1, 5);
        faulty(PATTERN, ")", 1, 0);
        faulty(PATTERN, "<", 1, 0);
        faulty(PATTERN, "* < < b", 1, 4);
        faulty(PATTERN, "* b", 1, 2);
        faulty(PATTERN, "* !", 1, 3);
        faulty(PATTERN, "* ?", 1, 3);
        faulty(PATTERN, "* ! b", 1, 4);
        faulty(PATTERN, "* ?(< b)", 1, 3);
        faulty(PATTERN, "**", 1, 1);
        faulty(PATTERN, "a|", 1, 2);
        faulty(PATTERN, "a||b", 1, 2);
        faulty(PATTERN, "|a", 1, 0);
        faulty(PATTERN, "!|a", 1, 1);
        faulty(PATTERN, "!", 1, 1);
        faulty(PATTERN, "!!a", 1, 1);
        faulty(PATTERN, "!a|!b", 1, 3);
        faulty(PATTERN, "a|*", 1, 2);
        faulty(PATTERN, "*=x < ~x|b", 1, 8);
        faulty(PATTERN, "*=x < ~x~x", 1, 8);
    }

    /** "There is no ? in either", but a ! in both; and outside of them a ? anew. */
    private static void whereAMarkStands() {
        whole(PATTERN, "a !< (b !< c)", 1);
        whole(PATTERN, "a ?< (b !< c)", 2);
        whole(PATTERN, "a !< (b !< (c !< d))", 1);
        whole(PATTERN, "a ?< b ?< c !< d", 3);
        whole(PATTERN, "a < (b ?< c) ?< d", 4);
        whole(PATTERN, "a !< (b) ?< (c)", 2);
        whole(PATTERN, "a !< (b < c) ?< (d < e) ?< f", 4);
        whole(PATTERN, "a=x ?< (=x !< (=x < b))", 1);
        faulty(PATTERN, "a !< (b ?< c)", 1, 8);
        faulty(PATTERN, "a ?< (b ?< c)", 1, 8);
        faulty(PATTERN, "a !< (b < (c ?< d))", 1, 13);
        faulty(PATTERN, "a ?< (b < (c ?< d))", 1, 13);
        faulty(PATTERN, "a ?< (b !< (c ?< d))", 1, 14);
        faulty(PATTERN, "a !< (b !< (c ?< d))", 1, 14);
        faulty(PATTERN, "a=x !< (=x ?< d)", 1, 11);
        faulty(PATTERN, "a=x ?< (=x ?< d)", 1, 11);
        faulty(PATTERN, "a ?!< b", 1, 3);
        faulty(PATTERN, "a !?< b", 1, 3);
        faulty(PATTERN, "a !!< b", 1, 3);
        faulty(PATTERN, "a ??< b", 1, 3);
    }

    /** "At most 8 nodes, those that are =x alone counted, too", "there are at most 4" that are numbered. */
    private static void howManyNodes() {
        for (int more = 0; more <= 7; more++) {
            whole(PATTERN, "*=x" + " < =x".repeat(more), 1);
            whole(PATTERN, "*=x" + " !< b".repeat(more), 1);
            whole(PATTERN, "*" + " !< (b".repeat(more) + ")".repeat(more), 1);
            whole(PATTERN, "*" + " !> b < c".repeat(Math.min(more, 3)), 1 + Math.min(more, 3));
        }
        for (int more = 0; more <= 3; more++) {
            whole(PATTERN, "*=x" + " < b".repeat(more), 1 + more);
            whole(PATTERN, "*=x" + " ?< b".repeat(more), 1 + more);
            whole(PATTERN, "*=x" + " < ~x".repeat(more), 1 + more);
            whole(PATTERN, "*=x" + " < !b".repeat(more), 1 + more);
            whole(PATTERN, "*=x" + " < (*".repeat(more) + ")".repeat(more), 1 + more);
            whole(PATTERN, "*=x ?< (=x" + " < *".repeat(more) + ")", 1 + more);
        }
        whole(PATTERN, "*=x < b < c < d < =x !< e < =x ?< =x", 4);
        whole(PATTERN, "*=x !< e !< f !< g !< =x < b < c < d", 4);
        String[] nodes = {"*", "a", "!a", "~x", "!a|b=y", "*=y", "a=x", "~x=x", "~y", "!1", "!abcdefg", "=x", "=y", "="};
        for (String node : nodes) {
            boolean again = node.startsWith("=");
            String nine = "*=x" + " !< b".repeat(7) + " !< ";
            faulty(PATTERN, nine + node, 3, nine.length());
            faulty(PATTERN, nine + "( " + node, 3, nine.length() + 2);
            String five = "*=x < b < (c ?< d) < ";
            if (again) {
                continue;
            }
            faulty(PATTERN, five + node, 3, five.length());
            faulty(PATTERN, five + "(\n" + node, 3, five.length() + 2);
            String optional = "*=x ?< b ?< (c < d) ?< ";
            faulty(PATTERN, optional + node, 3, optional.length());
            faulty(PATTERN, optional + "(=x < " + node, 3, optional.length() + 6);
        }
        whole(PATTERN, "*=x < b < (c ?< d) < =x", 4);
        whole(PATTERN, "*=x < b < (c ?< d) !< !a", 4);
    }

    /** "At one place 1 goes ahead of 2, and that ahead of 3 and 4": at the token that would be a node too many. */
    private static void atOnePlace() {
        String nine = "*=x" + " < =x".repeat(7) + " < ";
        String five = "*=x < b < c < d < ";
        for (String full : new String[] {nine, five}) {
            int place = full.length();
            faulty(PATTERN, full + "1", 1, place);
            faulty(PATTERN, full + "\u00e9", 1, place);
            faulty(PATTERN, full + ")", 1, place);
            faulty(PATTERN, full, 1, place);
            faulty(PATTERN, full + "(", 1, place + 1);
            faulty(PATTERN, full + "((", 1, place + 1);
            faulty(PATTERN, full + "abcdefg", 2, place);
            faulty(PATTERN, full + "(abcdefg", 2, place + 1);
            faulty(PATTERN, full + "abcdef", 3, place);
            faulty(PATTERN, full + "a|abcdefg", 3, place);
            faulty(PATTERN, full + "a=x", 3, place);
        }
        faulty(PATTERN, nine + "=q", 3, nine.length());
        faulty(PATTERN, five + "=q", 4, five.length() + 1);
        faulty(PATTERN, five + "~q", 3, five.length());
        // what stands further left is told first, whatever its code
        faulty(PATTERN, "a < =q < abcdefg", 4, 5);
        faulty(PATTERN, "abcdefg < =q", 2, 0);
        faulty(PATTERN, "a=x=q", 1, 3);
        faulty(PATTERN, "a=x < b=x < 1", 4, 8);
        faulty(PATTERN, "a=x < b=1", 1, 8);
        faulty(PATTERN, "a=x < b < c < d < e=x", 3, 18);
        faulty(PATTERN, "a=x < b=x < c < d < e", 4, 8);
    }

    /** "Names are single letters a .. z", "no name is given twice": each of them, and in each part. */
    private static void namesAreGivenOnce() {
        for (char name = 'a'; name <= 'z'; name++) {
            whole(PATTERN, "*=" + name, 1);
            whole(PATTERN, "*=" + name + " < =" + name, 1);
            whole(PATTERN, "*=" + name + " < ~" + name, 2);
            faulty(PATTERN, "*=" + name + " < *=" + name, 4, 8);
            faulty(PATTERN, "*=" + (char) (name - 32), 1, 2);
            char other = name == 'z' ? 'a' : (char) (name + 1);
            whole(PATTERN, "*=" + name + " < *=" + other, 2);
            faulty(PATTERN, "*=" + name + " < =" + other, 4, 7);
            faulty(PATTERN, "*=" + name + " < ~" + other, 4, 7);
        }
        whole(PATTERN, "a=x !< b=y ?< c=z < d=w", 3);
        faulty(PATTERN, "a=x !< b=x", 4, 9);
        faulty(PATTERN, "a=x ?< b=x", 4, 9);
        faulty(PATTERN, "a !< b=x < c=x", 4, 13);
        faulty(PATTERN, "a !< b=x !< c=x", 4, 14);
        faulty(PATTERN, "a ?< b=x < c=x", 4, 13);
        faulty(PATTERN, "a ?< b=x ?< c=x", 4, 14);
        faulty(PATTERN, "a ?< (b=x !< c=x)", 4, 15);
        faulty(PATTERN, "a=x < ~x=x", 4, 9);
        faulty(PATTERN, "a=x < !b=x", 4, 9);
        faulty(PATTERN, "a=x < *= x", 4, 9);
    }

    /** "In ~x and in =x alone x has been told earlier, in no ! part and no ? part". */
    private static void namesAreToldEarlier() {
        String[] again = {"=y", "~y"};
        for (String node : again) {
            faulty(PATTERN, node, 4, 1);
            faulty(PATTERN, "a < " + node, 4, 5);
            faulty(PATTERN, "a < " + node + " < b=y", 4, 5);
            faulty(PATTERN, "a < (" + node + " < b=y)", 4, 6);
            faulty(PATTERN, "a !< b=y < " + node, 4, 12);
            faulty(PATTERN, "a !< (b=y < " + node + ")", 4, 13);
            faulty(PATTERN, "a !< (b < c=y) < " + node, 4, 18);
            faulty(PATTERN, "a !< (b !< c=y) < " + node, 4, 19);
            faulty(PATTERN, "a ?< b=y < " + node, 4, 12);
            faulty(PATTERN, "a ?< (b=y < " + node + ")", 4, 13);
            faulty(PATTERN, "a ?< (b < c=y) < " + node, 4, 18);
            faulty(PATTERN, "a ?< b=y ?< " + node, 4, 13);
            int numbered = node.equals("=y") ? 0 : 1;
            whole(PATTERN, "a=y < " + node, 1 + numbered);
            whole(PATTERN, "a=y !< " + node, 1);
            whole(PATTERN, "a=y ?< " + node, 1 + numbered);
            whole(PATTERN, "a < (b < c=y) < (d !< " + node + ")", 4);
            whole(PATTERN, "a < b=y ?< (c < " + node + ")", 3 + numbered);
            whole(PATTERN, "a=y !< (b !< (c < " + node + "))", 1);
        }
        faulty(PATTERN, "~x=x", 4, 1);
        whole(PATTERN, "a=x < ~x=y < =y", 2);
    }

    /** Promises 4 and 5: a text with a fault leaves the pattern and the script as they were. */
    private static void aFaultLeavesTheOld() {
        Treegrab t = made(0, "(a (b c) b)", "b=x < c=y", "rename x z");
        String[] spoilt = {"", "* <", "b=x !< c=x", "b=x < c=y < c=z <", "*=x ?< (*=y ?< *)", "a=q < b < b < b < b"};
        for (String text : spoilt) {
            feed(t, text);
            due("pattern <" + text + ">", ISE, t::pattern);
            due("matches stay", 1, () -> t.matches(0));
            due("tried stay", 1, () -> t.matchesByTrying(0));
            due("the match stays", 2, () -> t.matchAt(0, 0, 1));
            due("the plan stays", 1, () -> t.planAt(0, 0));
        }
        String[] scripts = {"delete", "delete x;", "rename x abcdefg", "rename x y; add", "delete x;".repeat(8) + "delete x"};
        for (String text : scripts) {
            feed(t, text);
            due("script <" + text + ">", ISE, t::script);
        }
        due("the script stays", 1, () -> t.edit(0));
        same("the script stays", "(a (z c) b)", shown(t, 0));
    }

    /** As many LABELs as a full tape holds, one pattern after another. */
    private static void manyLabels() {
        String labels = "b" + "|b".repeat(298) + "|a";
        Treegrab t = new Treegrab();
        plant(t, 0, "(a c)");
        for (int i = 0; i < 6; i++) {
            feed(t, labels);
            due("300 LABELs", 1, t::pattern);
            due("the last one fits", 1, () -> t.matches(0));
        }
    }

    private static final String[] EDITS = {"rename a b", "delete a", "excise a", "wrap a b", "add b first a", "add b last a",
        "add b before a", "add b after a", "move a first b", "move a last b", "move a before b", "move a after b"};

    /** "At most 8, or none", "a 9th EDIT", told "at the first token of the EDIT". */
    private static void howManyEdits() {
        for (String edit : EDITS) {
            String text = edit;
            for (int edits = 1; edits <= 8; edits++) {
                whole(SCRIPT, text, edits);
                whole(SCRIPT, text + " ", edits);
                faulty(SCRIPT, text + ";", 1, text.length() + 1);
                faulty(SCRIPT, text + " ; \t", 1, text.length() + 4);
                faulty(SCRIPT, text + ";;" + edit, 1, text.length() + 1);
                faulty(SCRIPT, text + " " + edit, 1, text.length() + 1);
                text += edits < 8 ? ";" + edit : "";
            }
            faulty(SCRIPT, text + "; " + edit, 3, text.length() + 2);
            faulty(SCRIPT, text + ";" + edit + ";" + edit, 3, text.length() + 1);
            faulty(SCRIPT, text + ";" + edit.substring(0, edit.indexOf(' ')), 3, text.length() + 1);
            faulty(SCRIPT, text + ";delete 1", 3, text.length() + 1);
            faulty(SCRIPT, text + ";delte x", 1, text.length() + 1);
            faulty(SCRIPT, text + ";abcdefg x", 1, text.length() + 1);
            faulty(SCRIPT, text + ";1", 1, text.length() + 1);
            faulty(SCRIPT, text + ";", 1, text.length() + 1);
        }
        whole(SCRIPT, "", 0);
        whole(SCRIPT, " ", 0);
        faulty(SCRIPT, ";", 1, 0);
    }

    /** Each EDIT broken off behind each of its bytes: 1 at the end, or at the token that is none yet. */
    private static void editsBrokenOff() {
        for (String edit : EDITS) {
            for (int length = 1; length < edit.length(); length++) {
                String text = edit.substring(0, length);
                int token = text.lastIndexOf(' ') + 1;
                boolean wordEnds = edit.charAt(length) == ' ' || token == length;
                faulty(SCRIPT, text, 1, wordEnds ? length : token);
                faulty(SCRIPT, text + ";" + edit, 1, wordEnds ? length : token);
            }
            whole(SCRIPT, edit, 1);
        }
    }

    /** "With x and y as names, which are LABELs of one letter a .. z here". */
    private static void namesInScripts() {
        for (char name = 'a'; name <= 'z'; name++) {
            whole(SCRIPT, "delete " + name, 1);
            whole(SCRIPT, "move " + name + " after " + name, 1);
            whole(SCRIPT, "add " + name + " after " + name, 1);
            faulty(SCRIPT, "delete " + (char) (name - 32), 1, 7);
            faulty(SCRIPT, "delete " + name + name, 1, 7);
            faulty(SCRIPT, "delete " + name + "1", 1, 7);
            faulty(SCRIPT, "move a after " + name + name, 1, 13);
        }
        String[] words = {"Rename", "RENAME", "renam", "renamed", "rename1", "del", "adds", "mov", "wraps", "excised", "first"};
        for (String word : words) {
            faulty(SCRIPT, word + " x y", 1, 0);
        }
        String[] wheres = {"First", "firs", "firsts", "las", "lastly", "befor", "before1", "afte", "afterx", "in", "x"};
        for (String where : wheres) {
            faulty(SCRIPT, "add a " + where + " x", 1, 6);
            faulty(SCRIPT, "move x " + where + " y", 1, 7);
        }
        whole(SCRIPT, "rename x rename; wrap a wrap; add add first a; add first last l", 4);
        faulty(SCRIPT, "delete x 1", 1, 9);
        faulty(SCRIPT, "rename x 1", 1, 9);
        faulty(SCRIPT, "rename x y z", 1, 11);
        faulty(SCRIPT, "add 1 first x", 1, 4);
        faulty(SCRIPT, "add abcdefg first 1", 2, 4);
    }

    /** Promise 6: "0 before, and behind one without", and only these three calls tell one. */
    private static void whatFaultTells() {
        Treegrab t = new Treegrab();
        fault(t, 0, 0);
        feed(t, "a < b < c < d < e");
        due("a pattern", ISE, t::pattern);
        fault(t, 3, 16);
        due("none by IOOBE", IOOBE, () -> t.plant(3));
        fault(t, 3, 16);
        feed(t, "(");
        due("none by IOOBE with a fault in the tape", IOOBE, () -> t.plant(-1));
        fault(t, 3, 16);
        feed(t, "((");
        due("withLabel tells none", 0, () -> t.withLabel(0));
        feed(t, "((");
        due("withLabelByWalk tells none", 0, () -> t.withLabelByWalk(0));
        due("feed tells none", IAE, () -> t.feed(0, 0));
        due("undo tells none", ISE, () -> t.undo(0));
        due("edit tells none", 0, () -> t.edit(0));
        due("matchAt tells none", IOOBE, () -> t.matchAt(0, 0, 0));
        fault(t, 3, 16);
        plant(t, 0, "a");
        fault(t, 0, 0);
        feed(t, "  abcdefg");
        due("a tree", ISE, () -> t.plant(0));
        fault(t, 2, 2);
        pattern(t, "*");
        fault(t, 0, 0);
        feed(t, "delete x;");
        due("a script", ISE, t::script);
        fault(t, 1, 9);
        feed(t, "*=x < *=x");
        due("a pattern", ISE, t::pattern);
        fault(t, 4, 8);
        due("a script without", 0, t::script);
        fault(t, 0, 0);
        due("a tree of nothing", ISE, () -> t.plant(0));
        fault(t, 1, 0);
    }

    private static void fault(Treegrab t, int code, int place) {
        due("code", code, () -> t.fault(false));
        due("place", place, () -> t.fault(true));
    }

    public static void main(String[] arguments) {
        operatorsAsLongAsCanBe();
        whatAPatternIs();
        whereAMarkStands();
        howManyNodes();
        atOnePlace();
        namesAreGivenOnce();
        namesAreToldEarlier();
        aFaultLeavesTheOld();
        manyLabels();
        howManyEdits();
        editsBrokenOff();
        namesInScripts();
        whatFaultTells();
        end();
    }
}
