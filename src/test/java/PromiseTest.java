/**
 * For each promise of the document: ordinary inputs, the edges that it names, and wrong inputs.
 * What is due is worked out by hand from the document.
 */
public class PromiseTest extends Kit {
    private static void aNewObject() {
        Treegrab t = new Treegrab();
        due("NONE", -1, () -> Treegrab.NONE);
        for (int place = 0; place < 3; place++) {
            int p = place;
            due("new nodes", 0, () -> t.nodes(p));
            due("new matches", 0, () -> t.matches(p));
            due("new tried", 0, () -> t.matchesByTrying(p));
            due("new edit", 0, () -> t.edit(p));
            due("new undo", ISE, () -> t.undo(p));
            due("new show", 0, () -> t.show(p));
            due("new parent", IOOBE, () -> t.parent(p, 0));
            due("new plan", IOOBE, () -> t.planAt(p, 0));
            due("new match", IOOBE, () -> t.matchAt(p, 0, 0));
        }
        due("new word", 0, () -> t.word(0));
        due("new fault", 0, () -> t.fault(false));
        due("new fault place", 0, () -> t.fault(true));
        due("new tape", 1, () -> t.feed(97, 1));
        Treegrab other = new Treegrab();
        plant(other, 0, "a");
        pattern(other, "a");
        due("new script", 0, () -> other.edit(0));
    }

    private static void feeding() {
        Treegrab t = new Treegrab();
        due("n 0", IAE, () -> t.feed(97, 0));
        due("n 9", IAE, () -> t.feed(97, 9));
        due("n -1", IAE, () -> t.feed(97, -1));
        due("n least", IAE, () -> t.feed(97, LEAST));
        due("n most", IAE, () -> t.feed(97, MOST));
        due("n 1", 1, () -> t.feed(0x6261, 1));
        due("n 8", 9, () -> t.feed(0x2020202020202020L, 8));
        for (int i = 1; i < 74; i++) {
            due("more", 9 + 8 * i, () -> t.feed(0x2020202020202020L, 8));
        }
        due("593 and 8", ISE, () -> t.feed(0x2020202020202020L, 8));
        due("nothing came", 599, () -> t.feed(0x202020202020L, 6));
        due("599 and 2", ISE, () -> t.feed(0x2020, 2));
        due("600", 600, () -> t.feed(0x20, 1));
        due("601", ISE, () -> t.feed(0x20, 1));
        due("n first", IAE, () -> t.feed(0x20, 9));
        due("n first 0", IAE, () -> t.feed(0x20, 0));
        due("600 taken", 1, () -> t.plant(0));
        same("600 bytes", "a", shown(t, 0));
        Treegrab low = new Treegrab();
        low.feed(0x636261L, 2);
        low.feed(0xFFFFFF7A79L, 2);
        low.plant(0);
        same("lowest first", "abyz", shown(low, 0));
        due("high bytes", 2, () -> low.feed(0x8061L, 2));
        due("high byte", ISE, () -> low.plant(0));
        due("high byte place", 1, () -> low.fault(true));
    }

    private static void planting() {
        whole(TREE, "a", 1);
        whole(TREE, "(a)", 1);
        whole(TREE, "(S (NP D N) (VP V (NP D N)))", 9);
        whole(TREE, " \t\n( \nS a\tb ( c d ) ) \n", 5);
        whole(TREE, "(a(b)c(d e))", 5);
        whole(TREE, "Ab3456", 1);
        String full = "(a" + " a".repeat(19);
        whole(TREE, full + ")", 20);
        whole(TREE, "(a (a" + " a".repeat(17) + " (a)))", 20);
        faulty(TREE, "", 1, 0);
        faulty(TREE, "  \n", 1, 3);
        faulty(TREE, "(", 1, 1);
        faulty(TREE, "( ", 1, 2);
        faulty(TREE, "()", 1, 1);
        faulty(TREE, "( (a) b)", 1, 2);
        faulty(TREE, ")", 1, 0);
        faulty(TREE, "a b", 1, 2);
        faulty(TREE, "a)", 1, 1);
        faulty(TREE, "(a b))", 1, 5);
        faulty(TREE, "(a b) (", 1, 6);
        faulty(TREE, "(a b", 1, 4);
        faulty(TREE, "(a b  ", 1, 6);
        faulty(TREE, "(a 1)", 1, 3);
        faulty(TREE, "(a b-c)", 1, 4);
        faulty(TREE, "a\r", 1, 1);
        faulty(TREE, "a\0", 1, 1);
        faulty(TREE, "\u00e4", 1, 0);
        faulty(TREE, "abcdefg", 2, 0);
        faulty(TREE, "(a bcdefgh", 2, 3);
        faulty(TREE, "(abcdefg", 2, 1);
        faulty(TREE, "a bcdefgh", 1, 2);
        faulty(TREE, full + " b)", 3, 41);
        faulty(TREE, full + " (b))", 3, 41);
        faulty(TREE, full + " (bcdefgh", 3, 41);
        faulty(TREE, full + " ( 1", 3, 41);
        faulty(TREE, full + " bcdefgh", 2, 41);
        faulty(TREE, full + " 1", 1, 41);
        Treegrab t = new Treegrab();
        plant(t, 0, "(a b)");
        feed(t, "(c");
        due("bad place", IOOBE, () -> t.plant(3));
        due("used up by a bad place", 1, () -> t.feed('c', 1));
        due("bad place -1", IOOBE, () -> t.plant(-1));
        due("bad place least", IOOBE, () -> t.plant(LEAST));
        due("bad place most", IOOBE, () -> t.plant(MOST));
        due("used up again", 1, () -> t.feed(')', 1));
        due("fault", ISE, () -> t.plant(0));
        due("bad place tells no fault", IOOBE, () -> t.plant(3));
        due("the fault stays", 1, () -> t.fault(false));
        same("the old tree stays", "(a b)", shown(t, 0));
        plant(t, 2, "x");
        same("other places stay", "(a b)", shown(t, 0));
        due("other places stay empty", 0, () -> t.nodes(1));
        plant(t, 0, "(y z z)");
        same("a new tree", "(y z z)", shown(t, 0));
    }

    private static void plantingEndsUndo() {
        Treegrab t = new Treegrab();
        plant(t, 0, "(a b)");
        plant(t, 1, "(a b)");
        pattern(t, "b=x");
        script(t, "rename x c");
        t.edit(0);
        t.edit(1);
        plant(t, 0, "(a b)");
        due("no undo of the tree before", ISE, () -> t.undo(0));
        due("undo elsewhere", 2, () -> t.undo(1));
        t.edit(0);
        feed(t, "(");
        due("a fault", ISE, () -> t.plant(0));
        due("undo goes on behind a fault", 2, () -> t.undo(0));
        same("undone", "(a b)", shown(t, 0));
    }

    private static void patterns() {
        whole(PATTERN, "*", 1);
        whole(PATTERN, "a", 1);
        whole(PATTERN, "!a", 1);
        whole(PATTERN, " a | b|c =x ", 1);
        whole(PATTERN, "!a|b=x < ~x=y", 2);
        whole(PATTERN, "a=x<(b<c)>=x", 3);
        whole(PATTERN, "a < b << c <: d", 4);
        whole(PATTERN, "a !< b !<< c !<: d !> e !>> f !>: g !. h", 1);
        whole(PATTERN, "a=x < =x > =x . =x , =x $ =x <1 =x <-9 =x", 1);
        whole(PATTERN, "a<9*>1*>-1*", 4);
        whole(PATTERN, "*..*,,*$..*", 4);
        whole(PATTERN, "*$,*$.*$,,*", 4);
        whole(PATTERN, "*.*,*$*", 4);
        whole(PATTERN, "*=x ? < * ! < (* ! < *)", 2);
        whole(PATTERN, "*=x ?<(*=y !<(*=z))", 2);
        whole(PATTERN, "a < (b < (c < (d)))", 4);
        whole(PATTERN, "Z9z9z9|b", 1);
    }

    private static void patternFaults() {
        faulty(PATTERN, "", 1, 0);
        faulty(PATTERN, " ", 1, 1);
        faulty(PATTERN, "1", 1, 0);
        faulty(PATTERN, "(a)", 1, 0);
        faulty(PATTERN, "a b", 1, 2);
        faulty(PATTERN, "a *", 1, 2);
        faulty(PATTERN, "a <", 1, 3);
        faulty(PATTERN, "a < ", 1, 4);
        faulty(PATTERN, "a <0 b", 1, 3);
        faulty(PATTERN, "a <10 b", 1, 4);
        faulty(PATTERN, "a <-", 1, 4);
        faulty(PATTERN, "a <-0 b", 1, 4);
        faulty(PATTERN, "a <- 1 b", 1, 4);
        faulty(PATTERN, "a >-a", 1, 4);
        faulty(PATTERN, "a - b", 1, 2);
        faulty(PATTERN, "a <: : b", 1, 5);
        faulty(PATTERN, "a <<< b", 1, 4);
        faulty(PATTERN, "a <> b", 1, 3);
        faulty(PATTERN, "a ... b", 1, 4);
        faulty(PATTERN, "a ., b", 1, 3);
        faulty(PATTERN, "a $$ b", 1, 3);
        faulty(PATTERN, "a $... b", 1, 5);
        faulty(PATTERN, "a $ . b", 1, 4);
        faulty(PATTERN, "a !b", 1, 3);
        faulty(PATTERN, "a !!< b", 1, 3);
        faulty(PATTERN, "a ?!< b", 1, 3);
        faulty(PATTERN, "a !?< b", 1, 3);
        faulty(PATTERN, "a ?< (b ?< c)", 1, 8);
        faulty(PATTERN, "a !< (b ?< c)", 1, 8);
        faulty(PATTERN, "a ?< (b < (c ?< d))", 1, 13);
        faulty(PATTERN, "a ?< (b !< (c ?< d))", 1, 14);
        faulty(PATTERN, "a < (b", 1, 6);
        faulty(PATTERN, "a < (b ", 1, 7);
        faulty(PATTERN, "a < b)", 1, 5);
        faulty(PATTERN, "a < (b))", 1, 7);
        faulty(PATTERN, "a < ()", 1, 5);
        faulty(PATTERN, "a < ((b))", 1, 5);
        faulty(PATTERN, "a|", 1, 2);
        faulty(PATTERN, "a||b", 1, 2);
        faulty(PATTERN, "a|*", 1, 2);
        faulty(PATTERN, "*|a", 1, 1);
        faulty(PATTERN, "!", 1, 1);
        faulty(PATTERN, "!*", 1, 1);
        faulty(PATTERN, "!!a", 1, 1);
        faulty(PATTERN, "~", 1, 1);
        faulty(PATTERN, "~1", 1, 1);
        faulty(PATTERN, "=", 1, 1);
        faulty(PATTERN, "a=", 1, 2);
        faulty(PATTERN, "a= ", 1, 3);
        faulty(PATTERN, "a=X", 1, 2);
        faulty(PATTERN, "a=1", 1, 2);
        faulty(PATTERN, "a=xy", 1, 3);
        faulty(PATTERN, "a=x=y", 1, 3);
        faulty(PATTERN, "a=x < =x=y", 1, 8);
        faulty(PATTERN, "a=x|b", 1, 3);
        faulty(PATTERN, "abcdefg", 2, 0);
        faulty(PATTERN, "!abcdefg", 2, 1);
        faulty(PATTERN, "a|b|abcdefg", 2, 4);
        faulty(PATTERN, "a < (abcdefg", 2, 5);
        faulty(PATTERN, "a abcdefg", 1, 2);
        faulty(PATTERN, "a=x < b=x", 4, 8);
        faulty(PATTERN, "a < = y", 4, 6);
        faulty(PATTERN, "=x", 4, 1);
        faulty(PATTERN, "~x", 4, 1);
        faulty(PATTERN, "~x=x", 4, 1);
        faulty(PATTERN, "a=x < ~x=x", 4, 9);
        faulty(PATTERN, "a < ~y < b=y", 4, 5);
        faulty(PATTERN, "a ?< b=y < =y", 4, 12);
        faulty(PATTERN, "a !< b=y < ~y", 4, 12);
        faulty(PATTERN, "a ?< (b=y < =y)", 4, 13);
        faulty(PATTERN, "a !< (b=y < =y)", 4, 13);
        faulty(PATTERN, "a !< b=y < c=y", 4, 13);
        faulty(PATTERN, "a ?< b=y ?< c=y", 4, 14);
        faulty(PATTERN, "a=xyz=x", 1, 3);
    }

    private static void patternRooms() {
        faulty(PATTERN, "a < b < c < d < e", 3, 16);
        faulty(PATTERN, "a < b < c < d < (* < f", 3, 17);
        faulty(PATTERN, "a < b < c < d < abcdefg", 2, 16);
        faulty(PATTERN, "a < b < c < d < 1", 1, 16);
        faulty(PATTERN, "a < b < c < d ?< ~x", 3, 17);
        faulty(PATTERN, "a < b < c < d < !1", 3, 16);
        whole(PATTERN, "a < b < c < d !< e !< f !< g !< h", 4);
        faulty(PATTERN, "a < b < c < d !< e !< f !< g !< h !< i", 3, 37);
        String again = "a=x" + " < =x".repeat(7);
        whole(PATTERN, again, 1);
        faulty(PATTERN, again + " < =x", 3, 41);
        faulty(PATTERN, again + " < (=y", 3, 42);
        faulty(PATTERN, again + " < (!abcdefg", 3, 42);
        faulty(PATTERN, again + " < ?", 1, 41);
        whole(PATTERN, "a !< (b !< (c < (d < (e < (f !< (g < h))))))", 1);
        Treegrab t = new Treegrab();
        plant(t, 0, "(a a)");
        pattern(t, "a");
        feed(t, "a <");
        due("a fault", ISE, () -> t.pattern());
        due("the old pattern stays", 2, () -> t.matches(0));
        due("an empty tape", ISE, () -> t.pattern());
        due("the old pattern stays again", 2, () -> t.matchesByTrying(0));
        due("the end is at 0", 0, () -> t.fault(true));
        pattern(t, "* < a");
        due("a new pattern", 1, () -> t.matches(0));
    }

    private static void scripts() {
        whole(SCRIPT, "", 0);
        whole(SCRIPT, " \n ", 0);
        whole(SCRIPT, "rename x abc", 1);
        whole(SCRIPT, "delete\tx;excise y ; wrap z W9", 3);
        faulty(SCRIPT, "add a first b;add b last c;add delete before x;add first after after", 1, 63);
        whole(SCRIPT, "add a first b;add b last c;add delete before x;add first after a", 4);
        whole(SCRIPT, "move x first y;move x last y;move x before x;move x after y", 4);
        whole(SCRIPT, "delete a;".repeat(7) + "delete a", 8);
        faulty(SCRIPT, "delete a;".repeat(8) + "delete", 3, 72);
        faulty(SCRIPT, "delete a;".repeat(8), 1, 72);
        faulty(SCRIPT, "delete a;".repeat(8) + "erase", 1, 72);
        faulty(SCRIPT, "delete a;".repeat(8) + "erasing", 1, 72);
        faulty(SCRIPT, ";", 1, 0);
        faulty(SCRIPT, "delete x;", 1, 9);
        faulty(SCRIPT, "delete x; ", 1, 10);
        faulty(SCRIPT, "delete x;;delete y", 1, 9);
        faulty(SCRIPT, "delete x delete y", 1, 9);
        faulty(SCRIPT, "delete", 1, 6);
        faulty(SCRIPT, "deletex", 1, 0);
        faulty(SCRIPT, "Delete x", 1, 0);
        faulty(SCRIPT, "delet x", 1, 0);
        faulty(SCRIPT, "delete xy", 1, 7);
        faulty(SCRIPT, "delete x1", 1, 7);
        faulty(SCRIPT, "delete X", 1, 7);
        faulty(SCRIPT, "delete 1", 1, 7);
        faulty(SCRIPT, "delete abcdefgh", 1, 7);
        faulty(SCRIPT, "rename x", 1, 8);
        faulty(SCRIPT, "rename x;", 1, 8);
        faulty(SCRIPT, "rename x 1a", 1, 9);
        faulty(SCRIPT, "rename x abcdefg", 2, 9);
        faulty(SCRIPT, "rename abcdefg", 1, 7);
        faulty(SCRIPT, "wrap x abcdefg", 2, 7);
        faulty(SCRIPT, "wrap x a b", 1, 9);
        faulty(SCRIPT, "add abcdefg", 2, 4);
        faulty(SCRIPT, "add a b", 1, 6);
        faulty(SCRIPT, "add a under b", 1, 6);
        faulty(SCRIPT, "add a firstly b", 1, 6);
        faulty(SCRIPT, "add a first", 1, 11);
        faulty(SCRIPT, "add a first bc", 1, 12);
        faulty(SCRIPT, "move x y", 1, 7);
        faulty(SCRIPT, "move x last ;", 1, 12);
        faulty(SCRIPT, "\u00ff", 1, 0);
        Treegrab t = new Treegrab();
        plant(t, 0, "(a b)");
        pattern(t, "b=x");
        script(t, "rename x c");
        feed(t, "delete x;");
        due("a fault", ISE, () -> t.script());
        due("the old script stays", 1, () -> t.edit(0));
        same("the old script", "(a c)", shown(t, 0));
        plant(t, 0, "(a b)");
        due("an empty script", 0, () -> t.script());
        due("does nothing", 0, () -> t.edit(0));
        same("does nothing", "(a b)", shown(t, 0));
    }

    private static void faults() {
        Treegrab t = new Treegrab();
        feed(t, "(a  abcdefg");
        due("tree", ISE, () -> t.plant(0));
        due("code", 2, () -> t.fault(false));
        due("place", 4, () -> t.fault(true));
        feed(t, "a < b=x < =y");
        due("pattern", ISE, () -> t.pattern());
        due("code", 4, () -> t.fault(false));
        due("place", 11, () -> t.fault(true));
        feed(t, "drop");
        due("label", 0, () -> t.withLabel(0));
        due("withLabel tells none", 4, () -> t.fault(false));
        feed(t, "drop x");
        due("script", ISE, () -> t.script());
        due("code", 1, () -> t.fault(false));
        due("place", 0, () -> t.fault(true));
        feed(t, "a <<<");
        due("pattern", ISE, () -> t.pattern());
        due("place", 4, () -> t.fault(true));
        feed(t, "a");
        due("bad place", IOOBE, () -> t.plant(7));
        due("place stays", 4, () -> t.fault(true));
        due("script without one", 0, () -> t.script());
        due("code", 0, () -> t.fault(false));
        due("place", 0, () -> t.fault(true));
    }

    private static void treesAreTold() {
        Treegrab t = new Treegrab();
        // 0 S, 1 NP, 2 D, 3 N, 4 VP, 5 V, 6 NP, 7 D, 8 N; words D N V D N
        plant(t, 1, "(S (NP D N) (VP V (NP D N)))");
        int[] parents = {-1, 0, 1, 1, 0, 4, 4, 6, 6};
        int[] kids = {2, 2, 0, 0, 2, 0, 2, 0, 0};
        int[] firsts = {0, 0, 0, 1, 2, 2, 3, 3, 4};
        int[] lasts = {4, 1, 0, 1, 4, 2, 4, 3, 4};
        due("nodes", 9, () -> t.nodes(1));
        for (int node = 0; node < 9; node++) {
            int n = node;
            due("parent " + n, parents[n], () -> t.parent(1, n));
            due("children " + n, kids[n], () -> t.children(1, n));
            due("first word " + n, firsts[n], () -> t.wordOf(1, n, false));
            due("last word " + n, lasts[n], () -> t.wordOf(1, n, true));
        }
        int[] badPlaces = {-1, 3, LEAST, MOST};
        for (int bad : badPlaces) {
            due("nodes at " + bad, IOOBE, () -> t.nodes(bad));
            due("parent at " + bad, IOOBE, () -> t.parent(bad, 0));
            due("children at " + bad, IOOBE, () -> t.children(bad, 0));
            due("wordOf at " + bad, IOOBE, () -> t.wordOf(bad, 0, true));
            due("label at " + bad, IOOBE, () -> t.label(bad, 0));
        }
        int[] badNodes = {-1, 9, 19, 20, LEAST, MOST};
        for (int bad : badNodes) {
            due("parent of " + bad, IOOBE, () -> t.parent(1, bad));
            due("children of " + bad, IOOBE, () -> t.children(1, bad));
            due("first word of " + bad, IOOBE, () -> t.wordOf(1, bad, false));
            due("last word of " + bad, IOOBE, () -> t.wordOf(1, bad, true));
            due("label of " + bad, IOOBE, () -> t.label(1, bad));
        }
        due("node of no tree", IOOBE, () -> t.parent(0, 0));
        due("children of no tree", IOOBE, () -> t.children(0, 0));
        due("word of no tree", IOOBE, () -> t.wordOf(0, 0, false));
        due("label of no tree", IOOBE, () -> t.label(0, 0));
    }

    private static void labelled(Treegrab t, int place, String text, Object due) {
        feed(t, text);
        due("withLabel <" + text + ">", due, () -> t.withLabel(place));
        due("used up", 1, () -> t.feed('a', 1));
        due("a place that is none", IOOBE, () -> t.withLabel(3));
        feed(t, text);
        due("withLabelByWalk <" + text + ">", due, () -> t.withLabelByWalk(place));
        due("used up", 1, () -> t.feed('a', 1));
        due("a place that is none", IOOBE, () -> t.withLabelByWalk(-1));
        due("used up too", 1, () -> t.feed('a', 1));
        due("as the script", ISE, () -> t.script());
    }

    private static void labelsAreCounted() {
        Treegrab t = new Treegrab();
        plant(t, 0, "(S (NP D N) (VP V (NP D N abcdef abcde)))");
        labelled(t, 0, "NP", 2);
        labelled(t, 0, "N", 2);
        labelled(t, 0, "D", 2);
        labelled(t, 0, "S", 1);
        labelled(t, 0, "abcdef", 1);
        labelled(t, 0, "abcde", 1);
        labelled(t, 0, "abcdefg", 0);
        labelled(t, 0, "abcd", 0);
        labelled(t, 0, "np", 0);
        labelled(t, 0, "", 0);
        labelled(t, 0, " N", 0);
        labelled(t, 0, "N ", 0);
        labelled(t, 0, "N\0", 0);
        labelled(t, 0, "\0", 0);
        labelled(t, 0, "N\0\0\0\0\0\0\0", 0);
        labelled(t, 0, "N|D", 0);
        labelled(t, 1, "N", 0);
        labelled(t, 1, "", 0);
        labelled(t, 3, "N", IOOBE);
        labelled(t, -1, "N", IOOBE);
        labelled(t, MOST, "", IOOBE);
        pattern(t, "S=s < VP=v");
        script(t, "rename v N; add N last s; delete v; wrap s NP");
        due("edited", 4, () -> t.edit(0));
        labelled(t, 0, "N", 2);
        labelled(t, 0, "NP", 2);
        labelled(t, 0, "VP", 0);
        due("undone", 11, () -> t.undo(0));
        labelled(t, 0, "VP", 1);
        labelled(t, 0, "N", 2);
    }

    private static void operatorsMatch() {
        // 0 a, 1 b, 2 c, 3 d, 4 e, 5 f, 6 g, 7 h; words c d f g h
        String tree = "(a (b c d) (e f) g h)";
        grab(tree, "b < *", "1.2 1.3");
        grab(tree, "a << *", "0.1 0.2 0.3 0.4 0.5 0.6 0.7");
        grab(tree, "* << f", "0.5 4.5");
        grab(tree, "* <: *", "4.5");
        grab(tree, "a <1 *", "0.1");
        grab(tree, "* <2 *", "0.4 1.3");
        grab(tree, "* <9 *", "");
        grab(tree, "a <-1 *", "0.7");
        grab(tree, "* <-2 *", "0.6 1.2");
        grab(tree, "* > *", "1.0 2.1 3.1 4.0 5.4 6.0 7.0");
        grab(tree, "c >> *", "2.0 2.1");
        grab(tree, "* >: *", "5.4");
        grab(tree, "* >1 *", "1.0 2.1 5.4");
        grab(tree, "* >-1 *", "3.1 5.4 7.0");
        grab(tree, "* >-4 *", "1.0");
        grab(tree, "b . *", "1.4 1.5");
        grab(tree, "b .. *", "1.4 1.5 1.6 1.7");
        grab(tree, "f , *", "5.1 5.3");
        grab(tree, "f ,, *", "5.1 5.2 5.3");
        grab(tree, "a . *", "");
        grab(tree, "* , a", "");
        grab(tree, "e $ *", "4.1 4.6 4.7");
        grab(tree, "a $ *", "");
        grab(tree, "* $. *", "1.4 2.3 4.6 6.7");
        grab(tree, "b $.. *", "1.4 1.6 1.7");
        grab(tree, "* $, *", "3.2 4.1 6.4 7.6");
        grab(tree, "g $,, *", "6.1 6.4");
        grab("(a b b b b b b b b b b)", "* <9 *=x <-2 =x", "0.9");
    }

    private static void nodesMatch() {
        String tree = "(a (b c c) (c b))";
        grab(tree, "*", "0 1 2 3 4 5");
        grab(tree, "b|c", "1 2 3 4 5");
        grab(tree, "!b|a", "2 3 4");
        grab(tree, "!a|b|c", "");
        grab(tree, "d", "");
        grab(tree, "b=x $ *=y", "1.4");
        grab(tree, "c=x $ ~x", "2.3 3.2");
        grab(tree, "*=x .. ~x", "1.5 2.3 2.4 3.4");
        grab(tree, "*=x < (*=y < ~x)", "");
        grab(tree, "*=x $. (*=y < ~x)", "1.4.5");
        grab(tree, "*=x < b=y < (=y < c=z)", "0.1.2 0.1.3");
        grab(tree, "a < b=y << (c=z > =y)", "0.1.2 0.1.3");
        grab(tree, "* < c=z < (=z < b)", "0.4.5");
        grab(tree, "* < * < *", "0.1.1 0.1.4 0.4.1 0.4.4 1.2.2 1.2.3 1.3.2 1.3.3 4.5.5");
        grab("A", "a", "");
        grab("abcdef", "abcde|abcdef", "0");
    }

    private static void deniedMatch() {
        String tree = "(a (b c c) (c b))";
        grab(tree, "* !< *", "2 3 5");
        grab(tree, "* !> *", "0");
        grab(tree, "* < * !< b", "1.2 1.3");
        grab(tree, "* !< (c !< *)", "0 2 3 4 5");
        grab(tree, "* !<< (* !< *)", "2 3 5");
        grab(tree, "* !< (* !< *)", "0 2 3 5");
        grab(tree, "b !< (* $ *)", "5");
        grab(tree, "c=x !$ ~x", "4");
        grab(tree, "*=x !< (* !$ ~x)", "2 3 5");
        grab(tree, "*=x !< =x", "0 1 2 3 4 5");
        grab(tree, "*=x < *=y !< =y", "");
        grab(tree, "*=x << *=y !< =y", "0.2 0.3 0.5");
        grab(tree, "*=x !< (b=z !$ c) < *", "0.1 0.4 1.2 1.3");
    }

    private static void optionalMatch() {
        String tree = "(a (b c c) (c b))";
        grab(tree, "b ?< c", "1.2 1.3 5.-1");
        grab(tree, "b ?< d", "1.-1 5.-1");
        grab(tree, "b|c ?< (c !$ c)", "1.-1 2.-1 3.-1 4.-1 5.-1");
        grab(tree, "b|c ?$ (* < *) ?< *",
                "1.4.5.2 1.4.5.3 2.-1.-1.-1 3.-1.-1.-1 4.1.2.5 4.1.3.5 5.-1.-1.-1");
    }

    private static void optionalPartsMatch() {
        String tree = "(a (b c c) (c b))";
        // 0 a, 1 b, 2 c, 3 c, 4 c, 5 b
        grab(tree, "b ?$ (* < *) ?< *", "1.4.5.2 1.4.5.3 5.-1.-1.-1");
        grab(tree, "b ?< c=y ?> a", "1.2.0 1.3.0 5.-1.-1");
        grab(tree, "* ?< (* < *)", "0.1.2 0.1.3 0.4.5 1.-1.-1 2.-1.-1 3.-1.-1 4.-1.-1 5.-1.-1");
        grab(tree, "b=x ?< c < c", "1.2.2 1.2.3 1.3.2 1.3.3");
        grab(tree, "b=x ?< (* !$ =x) > *", "1.2.0 1.3.0 5.-1.4");
        grab(tree, "*=x < (*=y ?< (* $ *))", "0.1.2.3 0.1.3.2 0.4.-1.-1 1.2.-1.-1 1.3.-1.-1 4.5.-1.-1");
    }

    private static void optionalEdges() {
        String tree = "(a (b c c) (c b))";
        grab(tree, "b=x ?< =x", "1 5");
        grab(tree, "b=x ?> (=x < c)", "1.-1 5.-1");
        grab(tree, "b=x ?< (=x !< c)", "1 5");
        grab(tree, "a < *=x ?. (* !< * > =x)", "0.1.-1 0.4.-1");
        grab(tree, "a ?< (b=x !< c)", "0.-1");
        grab(tree, "a ?<< (b=x !< c)", "0.5");
        grab("a", "a ?< *", "0.-1");
        grab("(a b b)", "* ?< b ?$ b", "0.1.-1 0.2.-1 1.-1.2 2.-1.1");
    }

    private static void matchesAreTold() {
        Treegrab t = new Treegrab();
        due("no pattern, no tree", 0, () -> t.matches(0));
        plant(t, 0, "(a b b)");
        due("no pattern", 0, () -> t.matches(0));
        due("no pattern, trying", 0, () -> t.matchesByTrying(0));
        due("no pattern, match", IOOBE, () -> t.matchAt(0, 0, 0));
        pattern(t, "a < b ?< c");
        due("matches", 2, () -> t.matches(0));
        due("trying", 2, () -> t.matchesByTrying(0));
        due("no tree", 0, () -> t.matches(1));
        due("no tree, trying", 0, () -> t.matchesByTrying(1));
        due("back at the tree", 2, () -> t.matches(0));
        due("match", 2, () -> t.matchAt(0, 1, 1));
        due("match, none", -1, () -> t.matchAt(0, 1, 2));
        due("match, trying", 2, () -> t.matchAtByTrying(0, 1, 1));
        due("match, trying, none", -1, () -> t.matchAtByTrying(0, 1, 2));
        int[] badPlaces = {-1, 3, LEAST, MOST};
        for (int bad : badPlaces) {
            due("matches at " + bad, IOOBE, () -> t.matches(bad));
            due("trying at " + bad, IOOBE, () -> t.matchesByTrying(bad));
            due("match at " + bad, IOOBE, () -> t.matchAt(bad, 0, 0));
            due("match, trying at " + bad, IOOBE, () -> t.matchAtByTrying(bad, 0, 0));
            due("plan at " + bad, IOOBE, () -> t.planAt(bad, 0));
            due("edit at " + bad, IOOBE, () -> t.edit(bad));
            due("undo at " + bad, IOOBE, () -> t.undo(bad));
            due("show at " + bad, IOOBE, () -> t.show(bad));
        }
        int[] badMatches = {-1, 2, LEAST, MOST};
        for (int bad : badMatches) {
            due("match " + bad, IOOBE, () -> t.matchAt(0, bad, 0));
            due("match, trying " + bad, IOOBE, () -> t.matchAtByTrying(0, bad, 0));
        }
        int[] badNumbers = {-1, 3, 4, LEAST, MOST};
        for (int bad : badNumbers) {
            due("number " + bad, IOOBE, () -> t.matchAt(0, 0, bad));
            due("number, trying " + bad, IOOBE, () -> t.matchAtByTrying(0, 0, bad));
        }
        due("match of no tree", IOOBE, () -> t.matchAt(2, 0, 0));
        due("match of no tree, trying", IOOBE, () -> t.matchAtByTrying(2, 0, 0));
        plant(t, 2, "(a b b b)");
        due("another tree", 3, () -> t.matches(2));
        due("the first tree", 2, () -> t.matches(0));
        pattern(t, "a !< *");
        due("another pattern", 0, () -> t.matches(2));
        due("another pattern, trying", 0, () -> t.matchesByTrying(2));
        due("no match", IOOBE, () -> t.matchAt(2, 0, 0));
        plant(t, 2, "a");
        due("replanted", 1, () -> t.matches(2));
        due("replanted, trying", 1, () -> t.matchesByTrying(2));
    }

    private static void manyMatches() {
        Treegrab t = new Treegrab();
        plant(t, 0, "(a" + " a".repeat(19) + ")");
        pattern(t, "*=x $ * $ * $ *");
        due("19 times 18 cubed", 19 * 18 * 18 * 18, () -> t.matches(0));
        due("19 times 18 cubed, trying", 19 * 18 * 18 * 18, () -> t.matchesByTrying(0));
        int last = 19 * 18 * 18 * 18 - 1;
        due("the last of all", 19, () -> t.matchAt(0, last, 0));
        due("the last of all, 3", 18, () -> t.matchAt(0, last, 3));
        due("the last but one, 3", 17, () -> t.matchAtByTrying(0, last - 1, 3));
        due("the middle", 2, () -> t.matchAt(0, 18 * 18 * 18, 0));
        due("no more", IOOBE, () -> t.matchAt(0, last + 1, 0));
    }

    private static void plans() {
        String tree = "(a (b c c) (c b) d)";
        planned(tree, "*", "0.");
        planned(tree, "* < b", "10.");
        planned(tree, "a < b", "01.");
        planned(tree, "c < b < d", "201.");
        planned(tree, "* < * < *", "012.");
        planned(tree, "* < (b < (c < d))", "3210.");
        planned(tree, "e < a", "01.");
        planned(tree, "a < e", "10.");
        planned(tree, "* < (* < (* < a))", "3210.");
        planned(tree, "c < (* < d) < b", "2103.");
        planned(tree, "*=x < (* < d) < (a < =x)", "2103.");
        planned(tree, "* < (b=y < c) < (d < =y)", "3120.");
        planned(tree, "* ?< d < b", "20.");
        planned(tree, "* !< d < b", "10.");
        planned(tree, "a ?< d", "0.");
    }

    private static void plansOfRelations() {
        String tree = "(a (b c c) (c b) d)";
        planned(tree, "*=x < c=y < (d < =y)", "210.");
        planned(tree, "*=x < c=y < (d !< =y)", "201.");
        planned(tree, "*=x < c=y < (d ?< =y)", "201.");
        planned(tree, "c=x < (*=y < *=z) < (=x < d)", "3012.");
        planned(tree, "*=x < (*=y < *=z) < (=z < d)", "3201.");
        planned(tree, "!a|b|c < *", "01.");
        planned(tree, "*=x < ~x < a", "201.");
        Treegrab t = new Treegrab();
        plant(t, 0, tree);
        due("no pattern", IOOBE, () -> t.planAt(0, 0));
        pattern(t, "a < b ?< c");
        due("step 0", 0, () -> t.planAt(0, 0));
        due("step 1", 1, () -> t.planAt(0, 1));
        due("step 2", IOOBE, () -> t.planAt(0, 2));
        due("step -1", IOOBE, () -> t.planAt(0, -1));
        due("step least", IOOBE, () -> t.planAt(0, LEAST));
        due("step most", IOOBE, () -> t.planAt(0, MOST));
        due("no tree", IOOBE, () -> t.planAt(1, 0));
        plant(t, 1, "(b a a a b)");
        due("for another tree", 1, () -> t.planAt(1, 0));
        due("for the first tree", 0, () -> t.planAt(0, 0));
        plant(t, 0, "(b a a a b)");
        due("for a new tree", 1, () -> t.planAt(0, 0));
        pattern(t, "a ?< b");
        due("a new pattern", IOOBE, () -> t.planAt(0, 1));
    }

    private static void editsAreDone() {
        String tree = "(a (b c d) (e f))";
        edited(tree, "b=x", "rename x z9Z9z9", "1 (a (z9Z9z9 c d) (e f))");
        edited(tree, "b=x", "delete x", "1 (a (e f))");
        edited(tree, "c=x", "delete x", "1 (a (b d) (e f))");
        edited(tree, "f=x", "delete x", "1 (a (b c d))");
        edited(tree, "b=x", "excise x", "1 (a c d (e f))");
        edited(tree, "e=x", "excise x", "1 (a (b c d) f)");
        edited("(a (b c d))", "a=x", "excise x", "1 (b c d)");
        edited("(a b)", "a=x", "excise x", "1 b");
        edited(tree, "b=x", "wrap x w", "1 (a (w (b c d)) (e f))");
        edited(tree, "a=x", "wrap x w", "1 (w (a (b c d) (e f)))");
        edited(tree, "f=x", "wrap x w", "1 (a (b c d) (e (w f)))");
        edited(tree, "b=x", "add w first x", "1 (a (b w c d) (e f))");
        edited(tree, "b=x", "add w last x", "1 (a (b c d w) (e f))");
        edited(tree, "b=x", "add w before x", "1 (a w (b c d) (e f))");
        edited(tree, "b=x", "add w after x", "1 (a (b c d) w (e f))");
        edited(tree, "a=x", "add w last x", "1 (a (b c d) (e f) w)");
        edited(tree, "b=x $ e=y", "move y first x", "1 (a (b (e f) c d))");
        edited(tree, "b=x $ e=y", "move y last x", "1 (a (b c d (e f)))");
        edited(tree, "b=x $ e=y", "move y before x", "1 (a (e f) (b c d))");
        edited(tree, "b=x $ e=y", "move x after y", "1 (a (e f) (b c d))");
        edited(tree, "b=x $ e=y", "move x before y", "1 (a (b c d) (e f))");
        edited(tree, "f=x > e=y", "move x first y", "1 (a (b c d) (e f))");
        edited(tree, "f=x > e=y", "move x before y", "1 (a (b c d) f)");
        edited(tree, "f=x .. * $ b=y", "move x last y", "0 (a (b c d) (e f))");
        edited(tree, "f=x ,, b=y", "move x last y", "1 (a (b c d f))");
        edited("(a (b (c (d e))) (f g))", "e=x .. f=y", "move x first y", "1 (a (f e g))");
        edited("(a (b (c (d e))) (f g))", "e=x", "delete x", "1 (a (f g))");
        edited("(a (b (c (d e)) h))", "e=x", "delete x", "1 (a (b h))");
        edited("(a b c)", "*=x > a", "rename x z", "1 (a z c)");
    }

    private static void editsFollowOneAnother() {
        edited("(a (b c d) (e f))", "b=x $ e=y", "rename x z; excise x; wrap y w; add n after y; delete y", "5 (a c d (w n))");
        edited("(a (b c d) (e f))", "b=x < c=y", "wrap y w; delete y", "2 (a (b d) (e f))");
        edited("(a (b c))", "b=x < c=y", "add n first x; delete y; add m last x", "3 (a (b n m))");
        edited("(a b)", "b=x", "add n after x; delete x", "2 (a n)");
        edited("(a b)", "b=x", "rename x a; rename x c; rename x d", "3 (a d)");
        edited("(a b)", "b=x > a=y", "wrap y r; add n first y; excise y", "3 (r n b)");
        edited("(a b c d)", "a=z < b=x < c=y", "wrap x w; wrap y v; move y last z", "3 (a (w b) d c)");
        edited("(a b c d)", "a=z < b=x < c=y", "wrap x w; wrap y v; delete y; delete x", "4 (a d)");
        edited("(a b c)", "b=x $ c=y", "delete x; move y before y", ISE);
        edited("(a b c)", "b=x $ c=y", "delete y; move y before x", ISE);
        edited("(a (b c) d)", "c=x $ c=y", "rename x z", "0 (a (b c) d)");
        edited("(a b)", "b=x", "", "0 (a b)");
        edited("(a (b b))", "b=x", "delete x", ISE);
        edited("(a (b b) c)", "b=x !< *", "delete x", "1 (a c)");
    }

    private static void editsArePassedOver() {
        edited("(a b)", "b=x", "rename y z", "0 (a b)");
        edited("(a b)", "b=x ?< c=y", "rename y z; rename x w", "1 (a w)");
        edited("(a b)", "b=x !< c=y", "rename y z; delete y", "0 (a b)");
        edited("(a b)", "b=x", "delete y; delete z; add n first q", "0 (a b)");
        edited("(a b c)", "b=x", "delete x; move x first y; move y first x", "1 (a c)");
        edited("(a b)", "b=x > a=z", "move z first y; move y first z", "0 (a b)");
        edited("(a (b c))", "b=x ?< c=y", "rename y z", "1 (a (b z))");
        Treegrab t = new Treegrab();
        plant(t, 0, "(a b)");
        pattern(t, "b=x");
        script(t, "rename y z");
        t.edit(0);
        due("nothing done, nothing to undo", ISE, () -> t.undo(0));
    }

    private static void editsThatCannotBe() {
        edited("(a b c)", "b=x", "delete x; rename x z", ISE);
        edited("(a b c)", "b=x", "rename x z; delete x; add n after x", ISE);
        edited("(a (b c d))", "b=x", "excise x; delete x", ISE);
        edited("(a (b c) d)", "b=x < c=y", "delete x; rename y z", ISE);
        edited("(a (b c) d)", "b=x < c=y", "delete y; rename x z", ISE);
        edited("(a (b c) d)", "c=x > b=y", "move x before y; rename y z", ISE);
        edited("a", "a=x", "delete x", ISE);
        edited("(a b)", "a=x", "delete x", ISE);
        edited("(a (b c))", "c=x", "delete x", ISE);
        edited("(a (b c))", "b=x", "delete x", ISE);
        edited("(a b)", "b=x", "excise x", ISE);
        edited("a", "a=x", "excise x", ISE);
        edited("(a b c)", "a=x", "excise x", ISE);
        edited("(a b c)", "b=x", "add n first x", ISE);
        edited("(a b c)", "b=x", "add n last x", ISE);
        edited("(a b c)", "a=x", "add n before x", ISE);
        edited("(a b c)", "a=x", "add n after x", ISE);
        edited("(a b c)", "b=x $ c=y", "move x first y", ISE);
        edited("(a b c)", "b=x $ c=y", "move x last y", ISE);
        edited("(a b c)", "b=x > a=y", "move x before y", ISE);
        edited("(a b c)", "b=x > a=y", "move x after y", ISE);
        edited("(a b c)", "a=x < b=y", "move x before y", ISE);
        edited("(a (b c) d)", "b=x", "move x first x", ISE);
        edited("(a (b c) d)", "b=x", "move x before x", ISE);
        edited("(a (b (c e)) d)", "b=x < c=y", "move x first y", ISE);
        edited("(a (b (c e)) d)", "b=x < c=y", "move x after y", ISE);
        String seventeen = " c".repeat(17) + ")";
        String full = "(a b c" + seventeen;
        edited(full, "b=x", "add n after x", ISE);
        edited(full, "b=x", "wrap x n", ISE);
        edited(full, "b=x $. *=y", "delete x; add n after y", "2 (a c n" + seventeen);
        edited(full, "b=x $. *=y", "move x after y; rename y d", "2 (a d b" + seventeen);
        edited("(a b" + seventeen, "b=x", "wrap x n", "1 (a (n b)" + seventeen);
        edited("(a b" + seventeen, "b=x", "wrap x n; wrap x m", ISE);
    }

    private static void editsAreUndone() {
        Treegrab t = new Treegrab();
        plant(t, 0, "(a (b c) d)");
        plant(t, 1, "(a (b c) d)");
        pattern(t, "b=x < *=y");
        script(t, "add n first x; wrap y w");
        due("edit", 2, () -> t.edit(0));
        due("edit again", 2, () -> t.edit(0));
        same("edited twice", "(a (b n (w n) (w c)) d)", shown(t, 0));
        same("the other", "(a (b c) d)", shown(t, 1));
        due("undo", 6, () -> t.undo(0));
        same("undone", "(a (b n (w c)) d)", shown(t, 0));
        due("matches behind undo", 2, () -> t.matches(0));
        due("undo more", 4, () -> t.undo(0));
        same("undone more", "(a (b c) d)", shown(t, 0));
        due("no more", ISE, () -> t.undo(0));
        same("no more", "(a (b c) d)", shown(t, 0));
        due("parents are back", 1, () -> t.parent(0, 2));
        script(t, "delete x; rename y z");
        due("cannot be done", ISE, () -> t.edit(0));
        due("nothing to undo", ISE, () -> t.undo(0));
        script(t, "delete x");
        due("edit the other", 1, () -> t.edit(1));
        due("nothing to undo here", ISE, () -> t.undo(0));
        due("undo there", 4, () -> t.undo(1));
        due("no match any more", 1, () -> t.edit(0));
        due("0 without a match", 0, () -> t.edit(0));
        due("matches are new", 0, () -> t.matches(0));
        due("and by trying", 0, () -> t.matchesByTrying(0));
        due("undo past edits without EDITs", 4, () -> t.undo(0));
        due("no tree to undo", ISE, () -> t.undo(2));
        due("no tree to edit", 0, () -> t.edit(2));
    }

    private static void theOut() {
        Treegrab t = new Treegrab();
        plant(t, 0, " ( S ( NP (D) N )\n(VP V ))");
        due("show", 19, () -> t.show(0));
        same("shown", "(S (NP D N) (VP V))", out(t, 19));
        due("word 0", packed("(S (NP D"), () -> t.word(0));
        due("word 1", packed(" N) (VP "), () -> t.word(1));
        due("word 2", packed("V))"), () -> t.word(2));
        int[] bad = {3, -1, 100, LEAST, MOST, 1 << 28, 1 << 29, -(1 << 29), (1 << 29) + 1};
        for (int i : bad) {
            due("word " + i, 0, () -> t.word(i));
        }
        due("label", 2, () -> t.label(0, 1));
        due("label's word", packed("NP"), () -> t.word(0));
        due("label's next word", 0, () -> t.word(1));
        due("a wrong node", IOOBE, () -> t.label(0, 6));
        due("leaves the out", packed("NP"), () -> t.word(0));
        due("a wrong place", IOOBE, () -> t.show(3));
        due("leaves the out", packed("NP"), () -> t.word(0));
        plant(t, 0, "x");
        due("planting leaves the out", packed("NP"), () -> t.word(0));
        due("no tree", 0, () -> t.show(1));
        due("empties the out", 0, () -> t.word(0));
        String deep = "";
        for (int i = 0; i < 19; i++) {
            deep += "(abcdef ";
        }
        deep += "abcde1";
        for (int i = 0; i < 19; i++) {
            deep += ")";
        }
        plant(t, 2, deep);
        same("the longest", deep, shown(t, 2));
        due("its last word", 19, () -> t.parent(2, 19) + 1);
        due("the longest label", 6, () -> t.label(2, 19));
        same("the longest label", "abcde1", out(t, 6));
        due("word by word", 0, () -> t.word(1));
    }

    public static void main(String[] arguments) {
        aNewObject();
        feeding();
        planting();
        plantingEndsUndo();
        patterns();
        patternFaults();
        patternRooms();
        scripts();
        faults();
        treesAreTold();
        labelsAreCounted();
        operatorsMatch();
        nodesMatch();
        deniedMatch();
        optionalMatch();
        optionalPartsMatch();
        optionalEdges();
        matchesAreTold();
        manyMatches();
        plans();
        plansOfRelations();
        editsAreDone();
        editsFollowOneAnother();
        editsArePassedOver();
        editsThatCannotBe();
        editsAreUndone();
        theOut();
        end();
    }
}
