/**
 * The bounds that the document names for edit and undo: what can just be done and what just cannot, how far a
 * node that has lost all its children takes others with it, and how far back undoing goes.
 */
public class EditTest extends Kit {
    private static final int FULL = 20;

    /** A root r, a child x and as many words as make so many nodes. */
    private static String crowd(int nodes) {
        return "(r x" + " w".repeat(nodes - 2) + ")";
    }

    /** "If there would be more than 20 nodes": of the 20th and the 21st, by each EDIT that makes one. */
    private static void theTwentyFirstNode() {
        String[] makers = {"wrap x n", "add n before x", "add n after x", "add n first r", "add n last r", "wrap r n"};
        for (String maker : makers) {
            String script = maker.replace(" r", " y");
            Treegrab room = made(0, crowd(FULL - 1), "r=y < x=x", script);
            due(maker + " at 19", 1, () -> room.edit(0));
            due(maker + " makes 20", FULL, () -> room.nodes(0));
            due(maker + " at 20", ISE, () -> {
                pattern(room, "r=y < (x|n=x !> !r|n)");
                return room.edit(0);
            });
            due(maker + " leaves 20", FULL, () -> room.nodes(0));
            Treegrab twice = made(0, crowd(FULL - 1), "r=y < x=x", script + ";" + script);
            due(maker + " twice at 19", ISE, () -> twice.edit(0));
            due(maker + " twice leaves 19", FULL - 1, () -> twice.nodes(0));
            Treegrab most = made(0, crowd(FULL - 8), "r=y < x=x", (script + ";").repeat(7) + script);
            due(maker + " eight times at 12", 8, () -> most.edit(0));
            due(maker + " eight times makes 20", FULL, () -> most.nodes(0));
            Treegrab over = made(0, crowd(FULL - 7), "r=y < x=x", (script + ";").repeat(7) + script);
            due(maker + " eight times at 13", ISE, () -> over.edit(0));
            due(maker + " eight times leaves 13", FULL - 7, () -> over.nodes(0));
        }
        String full = crowd(FULL);
        String rest = " w".repeat(FULL - 2) + ")";
        edited(full, "x=x", "rename x y", "1 (r y" + rest);
        edited(full, "x=x", "delete x", "1 (r" + rest);
        edited(full, "x=x > r=y", "move x last y", "1 (r" + rest.replace(")", " x)"));
        edited(full, "x=x > r=y", "delete x; add n first y", "2 (r n" + rest);
        edited(full, "x=x > r=y", "add n first y; delete x", ISE);
        edited("(r (x w)" + " w".repeat(FULL - 3) + ")", "x=x", "excise x; wrap x n", ISE);
        edited("(r (x w)" + " w".repeat(FULL - 3) + ")", "x=x < w=y", "excise x; wrap y n", "2 (r (n w)" + rest.substring(2));
        edited("(r (x w)" + " w".repeat(FULL - 3) + ")", "x=x < w=y", "wrap y n; excise x", ISE);
    }

    /** "If delete would take the root, also as what has lost all its children". */
    private static void theRootStays() {
        edited("a", "a=x", "delete x", ISE);
        edited("(a b)", "a=x", "delete x", ISE);
        edited("(a b)", "b=x", "delete x", ISE);
        edited("(a b c)", "b=x", "delete x", "1 (a c)");
        edited("(a b c)", "b=x $ c=y", "delete x; delete y", ISE);
        edited("(a (b c))", "c=x", "delete x", ISE);
        edited("(a (b c))", "b=x", "delete x", ISE);
        edited("(a (b c) d)", "c=x", "delete x", "1 (a d)");
        edited("(a d (b c))", "c=x", "delete x", "1 (a d)");
        edited("(a (b c e) d)", "c=x", "delete x", "1 (a (b e) d)");
        String deep = "(c".repeat(17) + " e" + ")".repeat(17);
        edited("(a " + deep + " d)", "e=x", "delete x", "1 (a d)");
        edited("(a d " + deep + ")", "e=x", "delete x", "1 (a d)");
        edited("(a " + deep + ")", "e=x", "delete x", ISE);
        edited("(a (b " + "(c".repeat(15) + " e" + ")".repeat(15) + " f) d)", "e=x", "delete x", "1 (a (b f) d)");
        edited("(a b)", "b=x > a=y", "wrap y n; delete x", ISE);
        edited("(a b)", "b=x > a=y", "wrap y n; add m after y; delete x", "3 (n m)");
        edited("(a b)", "b=x > a=y", "wrap y n; add m after y; delete y", "3 (n m)");
        edited("(a b)", "b=x > a=y", "wrap x n; delete x", ISE);
        edited("(a b)", "b=x > a=y", "excise y; delete x", ISE);
        edited("(a (b c d))", "a=y < (b=x < c=z)", "excise y; delete z", "2 (b d)");
        edited("(a (b c d))", "a=y < b=x", "excise y; delete x", ISE);
        edited("(a b)", "a=x < b=y", "delete y", ISE);
    }

    /** "For excise, if x is a word, or is the root and has not just one child". */
    private static void excising() {
        edited("a", "a=x", "excise x", ISE);
        edited("(a b)", "b=x", "excise x", ISE);
        edited("(a b)", "a=x", "excise x", "1 b");
        edited("(a b c)", "a=x", "excise x", ISE);
        edited("(a (b c d e))", "a=x", "excise x", "1 (b c d e)");
        edited("(a (b c) d)", "a=x", "excise x", ISE);
        edited("(a (b c) d)", "b=x", "excise x", "1 (a c d)");
        edited("(a d (b c (e f) g) h)", "b=x", "excise x", "1 (a d c (e f) g h)");
        edited("(a (b c))", "b=x", "excise x", "1 (a c)");
        edited("(a (b (c d)))", "b=x < c=y", "excise x; excise y", "2 (a d)");
        edited("(a (b (c d)))", "b=x < (c=y < d=z)", "excise x; excise y; excise z", ISE);
        edited("(a (b (c d)))", "a=w < (b=x < c=y)", "excise w; excise x; excise y", "3 d");
        edited("(a b c)", "a=x < b=y", "delete y; excise x", "2 c");
        edited("(a b c)", "a=x < b=y", "excise x; delete y", ISE);
        edited("(a (b (c d)) e)", "a=x < b=y", "excise y; excise x", ISE);
    }

    /** "For first and last, if y is a word; for before and after, if y is the root". */
    private static void wherePlacesAre() {
        String tree = "(a (b c) d)";
        edited(tree, "a=y", "add n first y", "1 (a n (b c) d)");
        edited(tree, "a=y", "add n last y", "1 (a (b c) d n)");
        edited(tree, "a=y", "add n before y", ISE);
        edited(tree, "a=y", "add n after y", ISE);
        edited(tree, "b=y", "add n first y", "1 (a (b n c) d)");
        edited(tree, "b=y", "add n last y", "1 (a (b c n) d)");
        edited(tree, "b=y", "add n before y", "1 (a n (b c) d)");
        edited(tree, "b=y", "add n after y", "1 (a (b c) n d)");
        edited(tree, "c=y", "add n first y", ISE);
        edited(tree, "c=y", "add n last y", ISE);
        edited(tree, "c=y", "add n before y", "1 (a (b n c) d)");
        edited(tree, "c=y", "add n after y", "1 (a (b c n) d)");
        edited(tree, "d=y", "add n after y", "1 (a (b c) d n)");
        edited("a", "a=y", "add n first y", ISE);
        edited("a", "a=y", "add n last y", ISE);
        edited("a", "a=y", "add n before y", ISE);
        edited("a", "a=y", "wrap y r; add n before y; add m after y", "3 (r n a m)");
        edited("a", "a=y", "wrap y r; add n first y", ISE);
        edited("(a b)", "a=x < b=y", "excise x; add n before y", ISE);
        edited("(a b)", "a=x < b=y", "excise x; add n first y", ISE);
        edited(tree, "c=y", "wrap y r; add n first y", ISE);
    }

    /** "For move, if x is the root, or y is x or below it"; and the bounds of WHERE for move, too. */
    private static void moving() {
        String[] wheres = {"first", "last", "before", "after"};
        for (String where : wheres) {
            edited("(a (b c) d)", "a=x < b=y", "move x " + where + " y", ISE);
            edited("(a (b c) d)", "a=x", "move x " + where + " x", ISE);
            edited("(a (b c) d)", "b=x", "move x " + where + " x", ISE);
            edited("(a (b (c e) f) d)", "b=x < c=y", "move x " + where + " y", ISE);
            edited("(a (b (c e) f) d)", "b=x << e=y", "move x " + where + " y", ISE);
            edited("(a (b (c e) f) d)", "b=x < f=y", "move x " + where + " y", ISE);
        }
        // just behind what is below x, and just ahead of x, y can be
        edited("(a (b c) (d e))", "b=x $ d=y", "move x first y", "1 (a (d (b c) e))");
        edited("(a (b c) (d e))", "b=x $ d=y", "move x last y", "1 (a (d e (b c)))");
        edited("(a (b c) (d e))", "b=x $ d=y", "move x before y", "1 (a (b c) (d e))");
        edited("(a (b c) (d e))", "b=x $ d=y", "move x after y", "1 (a (d e) (b c))");
        edited("(a (b c) (d e))", "d=x $ b=y", "move x first y", "1 (a (b (d e) c))");
        edited("(a (b c) (d e))", "d=x $ b=y", "move x last y", "1 (a (b c (d e)))");
        edited("(a (b c) (d e))", "d=x $ b=y", "move x before y", "1 (a (d e) (b c))");
        edited("(a (b c) (d e))", "d=x $ b=y", "move x after y", "1 (a (b c) (d e))");
        edited("(a (b c) (d e))", "d=x > a=y", "move x first y", "1 (a (d e) (b c))");
        edited("(a (b c) (d e))", "b=x > a=y", "move x last y", "1 (a (d e) (b c))");
        edited("(a (b c) (d e))", "b=x > a=y", "move x before y", ISE);
        edited("(a (b c) (d e))", "b=x > a=y", "move x after y", ISE);
        edited("(a b (d e))", "d=x $ b=y", "move x first y", ISE);
        edited("(a b (d e))", "d=x $ b=y", "move x last y", ISE);
        edited("(a b (d e))", "d=x $ b=y", "move x before y", "1 (a (d e) b)");
        edited("(a b)", "b=x > a=y", "move x first y", "1 (a b)");
        edited("(a b)", "b=x > a=y", "move x last y", "1 (a b)");
        edited("(a b c)", "b=x > a=y", "move x first y", "1 (a b c)");
        edited("(a b c)", "c=x > a=y", "move x last y", "1 (a b c)");
    }

    /** "Taken away, too, and so on upward (with move, when x is in its new place)". */
    private static void whatIsLeftBare() {
        edited("(a (b c) d)", "c=x .. d=y", "move x before y", "1 (a c d)");
        edited("(a (b c) d)", "c=x > b=y", "move x before y", "1 (a c d)");
        edited("(a (b c) d)", "c=x > b=y", "move x after y", "1 (a c d)");
        edited("(a (b c) d)", "c=x > b=y", "move x first y", "1 (a (b c) d)");
        edited("(a (b c) d)", "c=x > b=y", "move x last y", "1 (a (b c) d)");
        edited("(a (b (c d)) e)", "d=x >> b=y", "move x after y", "1 (a d e)");
        edited("(a (b (c d)) e)", "d=x >> b=y", "move x before y", "1 (a d e)");
        edited("(a (b (c d)) e)", "d=x >> b=y", "move x first y", "1 (a (b d) e)");
        edited("(a (b (c d)) e)", "d=x >> b=y", "move x last y", "1 (a (b d) e)");
        edited("(a (b (c d)) e)", "d=x >> a=y", "move x last y", "1 (a e d)");
        edited("(a (b (c d)))", "d=x >> a=y", "move x last y", "1 (a d)");
        edited("(a (b (c d)))", "c=x >> a=y", "move x first y", "1 (a (c d))");
        edited("(a (b (c d) e) f)", "d=x .. f=y", "move x after y", "1 (a (b e) f d)");
        edited("(a (b (c d e)) f)", "d=x .. f=y", "move x after y", "1 (a (b (c e)) f d)");
        edited("(a f (b (c d)))", "d=x ,, f=y", "move x before y", "1 (a d f)");
        edited("(a (f g) (b (c d)))", "d=x ,, f=y", "move x last y", "1 (a (f g d))");
        // what is taken away is not in the tree any more; what is moved is, with all below it
        edited("(a (b c) d)", "c=x > b=y .. d=z", "move x after z; rename y n", ISE);
        edited("(a (b c) d)", "c=x > b=y", "move x before y; rename x n", "2 (a n d)");
        edited("(a (b (c e)) d)", "c=x > b=y < e=z", "move x before y; rename z n; rename x m", "3 (a (m n) d)");
        edited("(a (b (c e)) d)", "c=x < e=z .. d=y", "move x after y; add n after z; move z before x", "3 (a d e (c n))");
        edited("(a (b c) d)", "c=x > b=y", "delete x; wrap y n", ISE);
        edited("(a (b c) d)", "c=x > b=y", "delete x; add n first y", ISE);
        edited("(a (b c) d)", "c=x > b=y", "add n first y; delete x; rename y m", "3 (a (m n) d)");
        edited("(a (b c) d)", "c=x > b=y", "wrap x n; delete x; rename y m", ISE);
    }

    /** "If a node that it names is not in the tree any more", as x and as y of every EDIT. */
    private static void whatIsNotThere() {
        String[] edits = {"rename x n", "delete x", "excise x", "wrap x n", "add n first x", "add n last x", "add n before x",
            "add n after x", "move x first z", "move x last z", "move x before y", "move x after y", "move y first x",
            "move y last x", "move y before x", "move y after x", "move x first x"};
        String tree = "(a (b (c d)) (e f) g)";
        for (String edit : edits) {
            edited(tree, "b=x .. (e=z . g=y)", "delete x; " + edit, ISE);
            edited(tree, "b=x .. (e=z . g=y)", "excise x; " + edit, ISE);
            edited(tree, "c=x > b=w .. (e=z . g=y)", "delete w; " + edit, ISE);
        }
        edited(tree, "b=x .. (e=z . g=y)", "delete x; rename y n; rename z m", "3 (a (m f) n)");
        edited(tree, "c=x > b=w .. e=z", "excise w; rename x n", "2 (a (n d) (e f) g)");
    }

    /** "An EDIT with a name that the match gives no node, or that the pattern does not have, is passed over". */
    private static void whatIsPassedOver() {
        String[] edits = {"rename q n", "delete q", "excise q", "wrap q n", "add n first q", "add n last q", "add n before q",
            "add n after q", "move q first x", "move q after x", "move x first q", "move x before q", "move q last q"};
        // a pattern that does not have q, one that denies it, one that gives it none
        String[] patterns = {"b=x", "b=x !< d=q", "b=x ?< d=q", "b=x ?< (c < d=q)", "b=x ?$ (b=q < d)", "b=x !< (b=q < d)"};
        for (String pattern : patterns) {
            for (String edit : edits) {
                edited("(a (b c) e)", pattern, edit, "0 (a (b c) e)");
                edited("(a (b c) e)", pattern, edit + "; rename x n", "1 (a (n c) e)");
                edited("(a (b c) e)", pattern, "rename x n;" + edit, "1 (a (n c) e)");
            }
            Treegrab t = made(0, "(a (b c) e)", pattern, "delete q; delete q");
            due("all passed over", 0, () -> t.edit(0));
            due("nothing to take back", ISE, () -> t.undo(0));
        }
        for (char name = 'a'; name <= 'z'; name++) {
            char other = name == 'a' ? 'z' : (char) (name - 1);
            edited("(a b c)", "b=" + name, "rename " + name + " n", "1 (a n c)");
            edited("(a b c)", "b=" + name, "rename " + other + " n", "0 (a b c)");
            edited("(a b c)", "b=" + name + " $. c=" + other, "move " + name + " after " + other, "1 (a c b)");
            edited("(a b c)", "b=" + name, "add n after " + name + "; add m before " + other, "1 (a b n c)");
        }
        edited("(a (b c) e)", "b=x ?< c=q", "delete q; rename x n", ISE);
        edited("(a (b c) e)", "b=x ?< c=q", "rename q n", "1 (a (b n) e)");
        edited("(a b b)", "a ?< b=q", "rename q n", "1 (a n b)");
    }

    /** Promise 18: "0 if there is no match", "with the first match", how many EDITs are done. */
    private static void howManyAreDone() {
        edited("(a b)", "c=x", "rename x n", "0 (a b)");
        edited("(a b)", "c=x", "delete x; delete x", "0 (a b)");
        edited("(a b b)", "b=x", "rename x n", "1 (a n b)");
        edited("(a b b)", "b=x $ b=y", "rename x n; rename y m", "2 (a n m)");
        edited("(a b b)", "b=x $, b=y", "rename x n; rename y m", "2 (a m n)");
        edited("(a b)", "b=x", "", "0 (a b)");
        edited("(a b)", "b=x", "rename x b", "1 (a b)");
        String text = "rename x n";
        for (int edits = 1; edits <= 8; edits++) {
            edited("(a b)", "b=x", text, edits + " (a n)");
            edited("(a b)", "b=x", text + "m", edits + " (a nm)");
            text += ";rename x n";
        }
        Treegrab t = new Treegrab();
        due("no tree, no pattern", 0, () -> t.edit(0));
        script(t, "rename x n");
        due("a script alone", 0, () -> t.edit(0));
        plant(t, 0, "(a b)");
        due("no pattern", 0, () -> t.edit(0));
        due("nothing to take back", ISE, () -> t.undo(0));
        pattern(t, "b=x");
        due("no tree there", 0, () -> t.edit(1));
        due("all of them", 1, () -> t.edit(0));
        due("no match any more", 0, () -> t.edit(0));
    }

    /** "Some EDIT cannot be done when its turn comes": the first, one between, the last; then none is done. */
    private static void noneIsDone() {
        String[] scripts = {"delete x; rename y n; wrap z m", "rename y n; delete x; wrap z m", "rename y n; wrap z m; delete x",
            "rename y n; wrap z m; add k first y; move z before y; delete y; delete z; add q first x; add q first y"};
        for (String script : scripts) {
            Treegrab t = made(1, "(a (b c) d)", "a=x < (b=y < c=z)", script);
            due(script, ISE, () -> t.edit(1));
            same(script + " leaves the tree", "(a (b c) d)", shown(t, 1));
            due(script + " leaves the words", 1, () -> t.wordOf(1, 0, true));
            due(script + " leaves the matches", 1, () -> t.matches(1));
            due(script + " leaves nothing to take back", ISE, () -> t.undo(1));
            script(t, "rename y n");
            due("one that can be done", 1, () -> t.edit(1));
            script(t, script);
            pattern(t, "a=x < (n=y < c=z)");
            due(script + " again", ISE, () -> t.edit(1));
            due("what was done ahead is taken back", 4, () -> t.undo(1));
            same("as it was planted", "(a (b c) d)", shown(t, 1));
            due("no more", ISE, () -> t.undo(1));
        }
    }

    /** Promise 19: "the latest edit() by which EDITs were done in a tree since it was planted". */
    private static void howFarBack() {
        Treegrab t = new Treegrab();
        due("no tree", ISE, () -> t.undo(0));
        plant(t, 0, "(a b)");
        due("no edit", ISE, () -> t.undo(0));
        pattern(t, "*=y < b=x");
        script(t, "wrap x n");
        for (int nodes = 3; nodes <= FULL; nodes++) {
            due("edit to " + nodes, 1, () -> t.edit(0));
        }
        due("no room", ISE, () -> t.edit(0));
        due("20 nodes", FULL, () -> t.nodes(0));
        for (int nodes = FULL - 1; nodes >= 2; nodes--) {
            due("back to " + nodes, nodes, () -> t.undo(0));
        }
        same("all back", "(a b)", shown(t, 0));
        due("no further", ISE, () -> t.undo(0));
        due("edit anew", 1, () -> t.edit(0));
        script(t, "");
        due("no EDITs", 0, () -> t.edit(0));
        pattern(t, "q");
        due("no match", 0, () -> t.edit(0));
        due("past those without EDITs", 2, () -> t.undo(0));
        due("no further", ISE, () -> t.undo(0));
    }

    /** What an undo gives back is all of the tree: the root, its labels, what is below it; and not the script. */
    private static void whatIsGivenBack() {
        String tree = "(a (b c) (abcdef z9Z9z9) d)";
        String[] scripts = {"rename x n", "wrap x n", "rename x zzzzzz; rename y A; rename z B", "delete y; excise x; rename x n",
            "wrap x n; wrap x m; move z first x; delete y", "excise y; excise z", "move y last x; add n first x; rename x q"};
        for (String script : scripts) {
            if (script.contains("excise x")) {
                edited(tree, "a=x < b=y < (abcdef=z)", script, ISE);
                continue;
            }
            Treegrab t = made(0, tree, "a=x < b=y < (abcdef=z)", script);
            due(script, 1, () -> t.edit(0) > 0 ? 1 : 0);
            due(script + ", undone", 6, () -> t.undo(0));
            same(script + ", undone", tree, shown(t, 0));
            int[] parents = {-1, 0, 1, 0, 3, 0};
            for (int node = 0; node < 6; node++) {
                int n = node;
                due(script + ", undone, parent of " + n, parents[n], () -> t.parent(0, n));
            }
            due(script + ", undone, last word", 2, () -> t.wordOf(0, 0, true));
            due(script + ", undone, matches", 1, () -> t.matches(0));
            due(script + " again", 1, () -> t.edit(0) > 0 ? 1 : 0);
        }
    }

    /** "The edits of the one before cannot be undone any more", at its place and no other, and only by a tree without fault. */
    private static void plantingEndsUndoing() {
        Treegrab t = made(0, "(a b)", "b=x", "rename x n");
        plant(t, 1, "(a b)");
        plant(t, 2, "(a b c)");
        for (int place = 0; place < 3; place++) {
            int p = place;
            due("edit at " + p, 1, () -> t.edit(p));
        }
        plant(t, 1, "(a b)");
        due("replanted", ISE, () -> t.undo(1));
        feed(t, "(a b");
        due("a fault", ISE, () -> t.plant(0));
        feed(t, "(a b)");
        due("no place", IOOBE, () -> t.plant(3));
        due("place 0 undone", 2, () -> t.undo(0));
        due("place 2 undone", 3, () -> t.undo(2));
        same("place 0", "(a b)", shown(t, 0));
        same("place 2", "(a b c)", shown(t, 2));
        due("place 1 edited anew", 1, () -> t.edit(1));
        due("place 1 undone", 2, () -> t.undo(1));
        due("not again", ISE, () -> t.undo(1));
    }

    /** "An object is used for at most 512 calls": as many edits as they allow, all taken back. */
    private static void aLongHistory() {
        int edits = 248;
        Treegrab t = made(0, "(a b c d e)", "*=y <1 *=x", "move x last y");
        for (int i = 0; i < edits - 1; i++) {
            due("edit", 1, editCall(t));
        }
        same("turned 247 times", "(a e b c d)", shown(t, 0));
        due("the last edit", 1, editCall(t));
        for (int i = 0; i < edits; i++) {
            due("undo", 5, undoCall(t));
        }
        due("no more", ISE, undoCall(t));
        same("turned back", "(a b c d e)", shown(t, 0));
    }

    private static Call editCall(Treegrab t) {
        return () -> t.edit(0);
    }

    private static Call undoCall(Treegrab t) {
        return () -> t.undo(0);
    }

    public static void main(String[] arguments) {
        theTwentyFirstNode();
        theRootStays();
        excising();
        wherePlacesAre();
        moving();
        whatIsLeftBare();
        whatIsNotThere();
        whatIsPassedOver();
        howManyAreDone();
        noneIsDone();
        howFarBack();
        whatIsGivenBack();
        plantingEndsUndoing();
        aLongHistory();
        end();
    }
}
