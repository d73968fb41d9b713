/**
 * The bounds that the document names for trees: how many nodes one has, where its faults are told, which
 * places and nodes there are, its words, and how many nodes have a label.
 */
public class TreeTest extends Kit {
    private static final int FULL = 20;

    private static String flat(int nodes) {
        return "(r" + " w".repeat(nodes - 1) + ")";
    }

    private static String chain(int nodes) {
        return "(c".repeat(nodes - 1) + " e" + ")".repeat(nodes - 1);
    }

    /** "A tree has at most 20 nodes", and every smaller number of them is allowed. */
    private static void howManyNodes() {
        for (int nodes = 1; nodes <= FULL; nodes++) {
            whole(TREE, flat(nodes), nodes);
            whole(TREE, chain(nodes), nodes);
            whole(TREE, "(".repeat(1) + "r" + " (w)".repeat(nodes - 1) + ")", nodes);
        }
        for (int nodes = FULL + 1; nodes <= FULL + 3; nodes++) {
            faulty(TREE, flat(nodes), 3, 3 + 2 * (FULL - 1));
            faulty(TREE, chain(nodes), 3, nodes == FULL + 1 ? 2 * FULL + 1 : 2 * FULL);
            faulty(TREE, "(r" + " (w)".repeat(nodes - 1) + ")", 3, 3 + 4 * (FULL - 1));
        }
    }

    /** "3 at the first token of the node (of a tree also the ( of its own)", "at one place 1 goes ahead of 2, and that ahead of 3". */
    private static void theNodeTooMany() {
        String full = "(r" + " w".repeat(FULL - 1);
        int place = full.length();
        whole(TREE, full + ")", FULL);
        whole(TREE, full + "  ) ", FULL);
        faulty(TREE, full, 1, place);
        faulty(TREE, full + " w", 3, place + 1);
        faulty(TREE, full + "\n\n(w", 3, place + 2);
        faulty(TREE, full + "(", 3, place);
        faulty(TREE, full + "(1", 3, place);
        faulty(TREE, full + "(abcdefg", 3, place);
        faulty(TREE, full + "( ( w", 3, place);
        faulty(TREE, full + " abcdef)", 3, place + 1);
        faulty(TREE, full + " abcdefg)", 2, place + 1);
        faulty(TREE, full + " 1", 1, place + 1);
        faulty(TREE, full + " \u0080", 1, place + 1);
        faulty(TREE, full + " ", 1, place + 1);
        faulty(TREE, full + "))", 1, place + 1);
        faulty(TREE, full + ") w", 1, place + 2);
        faulty(TREE, full + ") abcdefg", 1, place + 2);
        faulty(TREE, full + ")(w", 1, place + 1);
        // one node less leaves room for the same texts
        String nearly = "(r" + " w".repeat(FULL - 2);
        int at = nearly.length();
        whole(TREE, nearly + " w)", FULL);
        whole(TREE, nearly + "(abcdef))", FULL);
        faulty(TREE, nearly + "(1", 1, at + 1);
        faulty(TREE, nearly + "(abcdefg", 2, at + 1);
        faulty(TREE, nearly + "((", 1, at + 1);
        faulty(TREE, nearly + "(w x", 3, at + 3);
        faulty(TREE, nearly + "(w(x", 3, at + 2);
    }

    /** "A TREE is LABEL, or (LABEL TREE TREE ...), with any number of TREEs, also none"; one tree and no more. */
    private static void whatATreeIs() {
        whole(TREE, "a", 1);
        whole(TREE, "(a)", 1);
        whole(TREE, "(a b)", 2);
        faulty(TREE, "", 1, 0);
        faulty(TREE, "(", 1, 1);
        faulty(TREE, "()", 1, 1);
        faulty(TREE, "((a))", 1, 1);
        faulty(TREE, ")", 1, 0);
        faulty(TREE, "(a", 1, 2);
        faulty(TREE, "(a b", 1, 4);
        faulty(TREE, "(a (b)", 1, 6);
        faulty(TREE, "(a (b", 1, 5);
        faulty(TREE, "(a ()", 1, 4);
        faulty(TREE, "(a))", 1, 3);
        faulty(TREE, "a)", 1, 1);
        faulty(TREE, "a a", 1, 2);
        faulty(TREE, "(a)(a)", 1, 3);
        faulty(TREE, "(a) a", 1, 4);
        Treegrab t = new Treegrab();
        plant(t, 0, "(a (b) c)");
        due("a node with none is a word", 0, () -> t.children(0, 1));
        due("its word", 0, () -> t.wordOf(0, 1, true));
        due("is told as a word", 7, () -> t.show(0));
        same("is told as a word", "(a b c)", out(t, 7));
        plant(t, 1, "(a)");
        due("a root alone is a word", 1, () -> t.show(1));
    }

    /** "The places 0 to 2 for trees, empty at first": each by itself. */
    private static void thePlaces() {
        Treegrab t = new Treegrab();
        for (int place = 0; place < 3; place++) {
            int p = place;
            due("empty at first", 0, () -> t.nodes(p));
            due("planted", p + 2, () -> plant(t, p, flat(p + 2)));
            for (int other = 0; other < 3; other++) {
                int o = other;
                due("behind plant(" + p + ") nodes(" + o + ")", o <= p ? o + 2 : 0, () -> t.nodes(o));
            }
        }
        plant(t, 1, chain(FULL));
        due("0 stays", 2, () -> t.nodes(0));
        due("1 is new", FULL, () -> t.nodes(1));
        due("2 stays", 4, () -> t.nodes(2));
        plant(t, 0, "x");
        plant(t, 2, "x");
        due("1 stays", FULL - 2, () -> t.parent(1, FULL - 1));
    }

    /** "If there is no such place for trees", for every call that is given one. */
    private static void noSuchPlace() {
        Treegrab t = made(0, "(a b)", "a=x", "rename x c");
        plant(t, 1, "(a b)");
        plant(t, 2, "(a b)");
        int[] bad = {LEAST, -2, -1, 3, 4, 256, 1 << 16, MOST};
        for (int place : bad) {
            due("plant at " + place, IOOBE, () -> t.plant(place));
            due("nodes at " + place, IOOBE, () -> t.nodes(place));
            due("parent at " + place, IOOBE, () -> t.parent(place, 0));
            due("children at " + place, IOOBE, () -> t.children(place, 0));
            due("wordOf at " + place, IOOBE, () -> t.wordOf(place, 0, false));
            due("withLabel at " + place, IOOBE, () -> t.withLabel(place));
            due("withLabelByWalk at " + place, IOOBE, () -> t.withLabelByWalk(place));
            due("matches at " + place, IOOBE, () -> t.matches(place));
            due("matchesByTrying at " + place, IOOBE, () -> t.matchesByTrying(place));
            due("matchAt at " + place, IOOBE, () -> t.matchAt(place, 0, 0));
            due("matchAtByTrying at " + place, IOOBE, () -> t.matchAtByTrying(place, 0, 0));
            due("planAt at " + place, IOOBE, () -> t.planAt(place, 0));
            due("edit at " + place, IOOBE, () -> t.edit(place));
            due("undo at " + place, IOOBE, () -> t.undo(place));
            due("show at " + place, IOOBE, () -> t.show(place));
            due("label at " + place, IOOBE, () -> t.label(place, 0));
        }
        for (int place = 0; place < 3; place++) {
            int p = place;
            due("nodes at " + p, 2, () -> t.nodes(p));
            due("parent at " + p, -1, () -> t.parent(p, 0));
            due("children at " + p, 1, () -> t.children(p, 0));
            due("wordOf at " + p, 0, () -> t.wordOf(p, 0, false));
            due("withLabel at " + p, 0, () -> t.withLabel(p));
            due("withLabelByWalk at " + p, 0, () -> t.withLabelByWalk(p));
            due("matches at " + p, 1, () -> t.matches(p));
            due("matchesByTrying at " + p, 1, () -> t.matchesByTrying(p));
            due("matchAt at " + p, 0, () -> t.matchAt(p, 0, 0));
            due("matchAtByTrying at " + p, 0, () -> t.matchAtByTrying(p, 0, 0));
            due("planAt at " + p, 0, () -> t.planAt(p, 0));
            due("edit at " + p, 1, () -> t.edit(p));
            due("undo at " + p, 2, () -> t.undo(p));
            due("show at " + p, 5, () -> t.show(p));
            due("label at " + p, 1, () -> t.label(p, 0));
        }
    }

    private static void nodesEndAt(String what, Treegrab t, int place, int nodes) {
        due(what + ", nodes", nodes, () -> t.nodes(place));
        int[] bad = {LEAST, -1, nodes, nodes + 1, MOST};
        for (int node : bad) {
            due(what + ", parent of " + node, IOOBE, () -> t.parent(place, node));
            due(what + ", children of " + node, IOOBE, () -> t.children(place, node));
            due(what + ", first word of " + node, IOOBE, () -> t.wordOf(place, node, false));
            due(what + ", last word of " + node, IOOBE, () -> t.wordOf(place, node, true));
            due(what + ", label of " + node, IOOBE, () -> t.label(place, node));
        }
        for (int node = 0; node < nodes; node += Math.max(1, nodes - 1)) {
            int n = node;
            due(what + ", a parent of " + n, n > 0 ? 1 : 0, () -> t.parent(place, n) >= 0 ? 1 : 0);
            due(what + ", some children of " + n, n < nodes - 1 ? 1 : 0, () -> t.children(place, n) > 0 ? 1 : 0);
            due(what + ", a first word of " + n, n == 0 ? 0 : 1, () -> t.wordOf(place, n, false) > 0 ? 1 : 0);
            due(what + ", a last word of " + n, nodes > 1 ? 1 : 0, () -> t.wordOf(place, n, true) > 0 ? 1 : 0);
            due(what + ", a label of " + n, 1, () -> t.label(place, n));
        }
    }

    /** "If there is no such node": 0 to one less than there are, which an edit and an undo move. */
    private static void noSuchNode() {
        Treegrab t = new Treegrab();
        nodesEndAt("no tree", t, 0, 0);
        plant(t, 0, "a");
        nodesEndAt("one node", t, 0, 1);
        nodesEndAt("elsewhere", t, 1, 0);
        plant(t, 0, flat(FULL));
        nodesEndAt("a full tree", t, 0, FULL);
        plant(t, 0, flat(3));
        nodesEndAt("a smaller tree", t, 0, 3);
        Treegrab e = made(1, flat(FULL - 1), "w=x $. *=y", "add n before y");
        e.edit(1);
        nodesEndAt("a node more", e, 1, FULL);
        e.undo(1);
        nodesEndAt("a node more undone", e, 1, FULL - 1);
        script(e, "delete x; delete y");
        e.edit(1);
        nodesEndAt("two nodes less", e, 1, FULL - 3);
        e.undo(1);
        nodesEndAt("two nodes less undone", e, 1, FULL - 1);
    }

    /** "The first word of a node is the lowest one that is the node itself or is below it, its last word the highest one." */
    private static void theWords() {
        Treegrab t = new Treegrab();
        plant(t, 0, flat(FULL));
        plant(t, 1, chain(FULL));
        plant(t, 2, "a");
        due("children of a flat root", FULL - 1, () -> t.children(0, 0));
        due("a flat root's first", 0, () -> t.wordOf(0, 0, false));
        due("a flat root's last", FULL - 2, () -> t.wordOf(0, 0, true));
        for (int node = 1; node < FULL; node++) {
            int n = node;
            due("a flat word's parent", 0, () -> t.parent(0, n));
            due("a flat word's children", 0, () -> t.children(0, n));
            due("a flat word's first", n - 1, () -> t.wordOf(0, n, false));
            due("a flat word's last", n - 1, () -> t.wordOf(0, n, true));
        }
        for (int node = 0; node < FULL; node++) {
            int n = node;
            due("a chain's parent", n - 1, () -> t.parent(1, n));
            due("a chain's children", n < FULL - 1 ? 1 : 0, () -> t.children(1, n));
            due("a chain's first", 0, () -> t.wordOf(1, n, false));
            due("a chain's last", 0, () -> t.wordOf(1, n, true));
        }
        due("the root has no parent", Treegrab.NONE, () -> t.parent(2, 0));
        due("a single word's first", 0, () -> t.wordOf(2, 0, false));
        due("a single word's last", 0, () -> t.wordOf(2, 0, true));
    }

    private static void both(Treegrab t, int place, String text, int due) {
        feed(t, text);
        due("withLabel <" + text + ">", due, () -> t.withLabel(place));
        feed(t, text);
        due("withLabelByWalk <" + text + ">", due, () -> t.withLabelByWalk(place));
    }

    /** Promises 11 and 12: "byte by byte"; none, all, and the lowest and highest LABELs there are. */
    private static void howManyHaveALabel() {
        Treegrab t = new Treegrab();
        both(t, 0, "w", 0);
        both(t, 0, "", 0);
        plant(t, 0, "(w" + " w".repeat(FULL - 1) + ")");
        both(t, 0, "w", FULL);
        both(t, 0, "v", 0);
        both(t, 0, "x", 0);
        both(t, 0, "W", 0);
        both(t, 0, "ww", 0);
        both(t, 0, "", 0);
        both(t, 1, "w", 0);
        plant(t, 1, "(A z AAAAAA zzzzzz a Z A00000 z99999 A0 z9 Aa zz zZ)");
        String[] once = {"A", "z", "AAAAAA", "zzzzzz", "a", "Z", "A00000", "z99999", "A0", "z9", "Aa", "zz", "zZ"};
        for (String label : once) {
            both(t, 1, label, 1);
        }
        StringBuilder all = new StringBuilder("(n0");
        for (int node = 1; node < FULL; node++) {
            all.append(" n").append(node);
        }
        plant(t, 2, all.append(")").toString());
        for (int node = 0; node < FULL; node++) {
            both(t, 2, "n" + node, 1);
        }
        both(t, 2, "n20", 0);
        String[] never = {"AA", "AAA", "AAAAA", "AAAAAAA", "zzzzz", "zzzzzzz", "A0000", "A000000", "0", "00000A", "z999999",
            "aA", "Zz", "azzzzz", "zzzzza", "A ", " A", "(A", "\tz", "z\n", "\0", "A\0", "\0A", "zzzzzz\0", "zzzzzz\0\0",
            "AAAAAA ", "\u00c1", "\u00fa", "\u00ff", "A\u0080", "a|A", "*", "w".repeat(600)};
        for (String label : never) {
            both(t, 1, label, 0);
        }
    }

    /** Promise 11: "by an index that is kept", so it goes with edits, undoing and planting. */
    private static void theIndexIsKept() {
        Treegrab t = made(2, "(a b b c)", "a=x < c=y", "rename y b; rename x abcdef; add c last x; wrap y z");
        both(t, 2, "b", 2);
        due("edited", 4, () -> t.edit(2));
        both(t, 2, "b", 3);
        both(t, 2, "a", 0);
        both(t, 2, "abcdef", 1);
        both(t, 2, "c", 1);
        both(t, 2, "z", 1);
        due("undone", 4, () -> t.undo(2));
        both(t, 2, "b", 2);
        both(t, 2, "a", 1);
        both(t, 2, "abcdef", 0);
        both(t, 2, "c", 1);
        both(t, 2, "z", 0);
        script(t, "rename y b; rename x z; delete x");
        due("not edited", ISE, () -> t.edit(2));
        both(t, 2, "b", 2);
        both(t, 2, "z", 0);
        feed(t, "(z b");
        due("not planted", ISE, () -> t.plant(2));
        both(t, 2, "b", 2);
        both(t, 2, "z", 0);
        plant(t, 2, "(b z z)");
        both(t, 2, "b", 1);
        both(t, 2, "z", 2);
        both(t, 2, "c", 0);
    }

    public static void main(String[] arguments) {
        howManyNodes();
        theNodeTooMany();
        whatATreeIs();
        thePlaces();
        noSuchPlace();
        noSuchNode();
        theWords();
        howManyHaveALabel();
        theIndexIsKept();
        end();
    }
}
