/**
 * New objects, call by call; and "a call that throws an exception changes nothing else than told; of several
 * exceptions that apply, the one that its throws clause names first is thrown".
 */
public class RefusalTest extends Kit {
    private interface Asker {
        long ask(Treegrab t);
    }

    private static void first(String what, Object due, Asker asker) {
        Treegrab t = new Treegrab();
        due("first of all, " + what, due, () -> asker.ask(t));
    }

    /** Promise 1: each call as the first one of an object. */
    private static void firstOfAll() {
        first("feed", 8, t -> t.feed(-1, 8));
        first("feed of 0", IAE, t -> t.feed(-1, 0));
        first("pattern", ISE, Treegrab::pattern);
        first("script", 0, Treegrab::script);
        first("fault code", 0, t -> t.fault(false));
        first("fault place", 0, t -> t.fault(true));
        first("word 0", 0, t -> t.word(0));
        first("word -1", 0, t -> t.word(-1));
        for (int place = -1; place <= 3; place++) {
            int p = place;
            boolean none = p < 0 || p > 2;
            Object zero = none ? IOOBE : 0;
            Object refused = none ? IOOBE : ISE;
            first("plant", refused, t -> t.plant(p));
            first("nodes", zero, t -> t.nodes(p));
            first("parent", IOOBE, t -> t.parent(p, 0));
            first("children", IOOBE, t -> t.children(p, 0));
            first("wordOf", IOOBE, t -> t.wordOf(p, 0, false));
            first("withLabel", zero, t -> t.withLabel(p));
            first("withLabelByWalk", zero, t -> t.withLabelByWalk(p));
            first("matches", zero, t -> t.matches(p));
            first("matchesByTrying", zero, t -> t.matchesByTrying(p));
            first("matchAt", IOOBE, t -> t.matchAt(p, 0, 0));
            first("matchAtByTrying", IOOBE, t -> t.matchAtByTrying(p, 0, 0));
            first("planAt", IOOBE, t -> t.planAt(p, 0));
            first("edit", zero, t -> t.edit(p));
            first("undo", refused, t -> t.undo(p));
            first("show", zero, t -> t.show(p));
            first("label", IOOBE, t -> t.label(p, 0));
        }
        Treegrab one = new Treegrab();
        Treegrab other = new Treegrab();
        plant(one, 0, "a");
        feed(one, "b");
        due("objects have trees of their own", 0, () -> other.nodes(0));
        due("objects have tapes of their own", 1, () -> other.feed('c', 1));
    }

    /** Trees at 0 (edited once) and 1, none at 2, a pattern, a script, a fault told and an out. */
    private static Treegrab busy() {
        Treegrab t = made(0, "(a b c)", "a=x < b=y", "wrap y n; rename x a");
        plant(t, 1, "(a b)");
        t.edit(0);
        pattern(t, "a=x << b=y");
        t.show(0);
        feed(t, "a=x < =y");
        due("a fault", ISE, t::pattern);
        return t;
    }

    private static String told(Treegrab t) {
        StringBuilder told = new StringBuilder();
        told.append(t.fault(false)).append(' ').append(t.fault(true));
        for (int i = 0; i < 4; i++) {
            told.append(' ').append(t.word(i));
        }
        for (int place = 0; place < 3; place++) {
            int p = place;
            told.append("; ").append(t.nodes(p));
            for (int node = 0; node < t.nodes(p); node++) {
                told.append(' ').append(t.parent(p, node)).append(t.children(p, node));
                told.append(t.wordOf(p, node, false)).append(t.wordOf(p, node, true));
            }
            told.append(", ").append(found(t, p, 2)).append(", ").append(answer(() -> t.planAt(p, 0)));
        }
        return told.toString();
    }

    /** A call that is refused and leaves all as it was; the tape too, if it is not one that takes it over. */
    private static void refused(String what, String tape, String exception, boolean takesOver, Asker asker) {
        Treegrab t = busy();
        feed(t, tape);
        String before = told(t);
        due(what, exception, () -> asker.ask(t));
        same(what + " leaves what is told", before, told(t));
        int length = takesOver ? 0 : tape.length();
        Object oneMore = length < 600 ? length + 1 : ISE;
        due(what + " and the tape", oneMore, () -> t.feed(' ', 1));
        same(what + " leaves tree 0", "(a (n b) c)", shown(t, 0));
        same(what + " leaves tree 1", "(a b)", shown(t, 1));
        same(what + " leaves no tree", "", shown(t, 2));
        due(what + " leaves the script", 2, () -> t.edit(1));
        same(what + " leaves the script", "(a (n b))", shown(t, 1));
        due(what + " leaves the edit", 3, () -> t.undo(0));
        same(what + " leaves the edit", "(a b c)", shown(t, 0));
        due(what + " leaves no more edits", ISE, () -> t.undo(0));
    }

    /** As refused; but the fault is told. */
    private static void refusedWithFault(String what, String tape, int code, int place, Asker asker) {
        Treegrab t = busy();
        feed(t, tape);
        String before = told(t);
        due(what, ISE, () -> asker.ask(t));
        due(what + ", code", code, () -> t.fault(false));
        due(what + ", place", place, () -> t.fault(true));
        String after = told(t);
        same(what + " leaves what is told", before.substring(before.indexOf(' ', 2)), after.substring(after.indexOf(' ', 2)));
        due(what + " uses up the tape", 1, () -> t.feed(' ', 1));
        same(what + " leaves tree 0", "(a (n b) c)", shown(t, 0));
        same(what + " leaves tree 1", "(a b)", shown(t, 1));
        due(what + " leaves the script", 2, () -> t.edit(1));
        due(what + " leaves the edit", 3, () -> t.undo(0));
    }

    private static final int[] NO_PLACES = {LEAST, -1, 3, MOST};

    private static void refusedForPlaces() {
        for (int place : NO_PLACES) {
            refused("plant at " + place, "(a b)", IOOBE, true, t -> t.plant(place));
            refused("plant of a fault at " + place, "(a (b", IOOBE, true, t -> t.plant(place));
            refused("nodes at " + place, "", IOOBE, false, t -> t.nodes(place));
            refused("parent at " + place, "(", IOOBE, false, t -> t.parent(place, 0));
            refused("children at " + place, "(", IOOBE, false, t -> t.children(place, 0));
            refused("wordOf at " + place, "(", IOOBE, false, t -> t.wordOf(place, 0, true));
            refused("withLabel at " + place, "b", IOOBE, true, t -> t.withLabel(place));
            refused("withLabelByWalk at " + place, "b", IOOBE, true, t -> t.withLabelByWalk(place));
            refused("matches at " + place, "a", IOOBE, false, t -> t.matches(place));
            refused("matchesByTrying at " + place, "a", IOOBE, false, t -> t.matchesByTrying(place));
            refused("matchAt at " + place, "a", IOOBE, false, t -> t.matchAt(place, 0, 0));
            refused("matchAtByTrying at " + place, "a", IOOBE, false, t -> t.matchAtByTrying(place, 0, 0));
            refused("planAt at " + place, "a", IOOBE, false, t -> t.planAt(place, 0));
            refused("edit at " + place, "a", IOOBE, false, t -> t.edit(place));
            refused("undo at " + place, "a", IOOBE, false, t -> t.undo(place));
            refused("show at " + place, "a", IOOBE, false, t -> t.show(place));
            refused("label at " + place, "a", IOOBE, false, t -> t.label(place, 0));
        }
    }

    private static void refusedForTheRest() {
        int[] noSizes = {LEAST, -1, 0, 9, MOST};
        for (int n : noSizes) {
            refused("feed of " + n, "ab", IAE, false, t -> t.feed(-1, n));
            refused("feed of " + n + " to a full tape", " ".repeat(600), IAE, false, t -> t.feed(-1, n));
        }
        refused("feed to a full tape", " ".repeat(600), ISE, false, t -> t.feed(-1, 1));
        refused("feed beyond a full tape", " ".repeat(593), ISE, false, t -> t.feed(-1, 8));
        int[] noNodes = {LEAST, -1, 4, 20, MOST};
        for (int node : noNodes) {
            refused("parent of " + node, "a", IOOBE, false, t -> t.parent(0, node));
            refused("children of " + node, "a", IOOBE, false, t -> t.children(0, node));
            refused("wordOf " + node, "a", IOOBE, false, t -> t.wordOf(0, node, false));
            refused("label of " + node, "a", IOOBE, false, t -> t.label(0, node));
            refused("label of " + node + " without a tree", "a", IOOBE, false, t -> t.label(2, node));
            refused("match " + node, "a", IOOBE, false, t -> t.matchAt(0, node, 0));
            refused("match " + node + ", tried", "a", IOOBE, false, t -> t.matchAtByTrying(0, node, 0));
            refused("number " + node, "a", IOOBE, false, t -> t.matchAt(0, 0, node));
            refused("number " + node + ", tried", "a", IOOBE, false, t -> t.matchAtByTrying(0, 0, node));
            refused("step " + node, "a", IOOBE, false, t -> t.planAt(0, node));
        }
        refused("plan without a tree", "a", IOOBE, false, t -> t.planAt(2, 0));
        refused("match without a tree", "a", IOOBE, false, t -> t.matchAt(2, 0, 0));
        refused("undo without an edit", "a", ISE, false, t -> t.undo(1));
        refused("undo without a tree", "a", ISE, false, t -> t.undo(2));
    }

    /** "If it has a fault, which is told then". */
    private static void refusedForFaults() {
        for (int place = 0; place < 3; place++) {
            int p = place;
            refusedWithFault("plant of nothing at " + p, "", 1, 0, t -> t.plant(p));
            refusedWithFault("plant at " + p, "(z (y x) w", 1, 10, t -> t.plant(p));
            refusedWithFault("plant of a long label at " + p, "(z (y x) abcdefg)", 2, 9, t -> t.plant(p));
            refusedWithFault("plant of too many at " + p, "(z" + " y".repeat(20) + ")", 3, 41, t -> t.plant(p));
        }
        refusedWithFault("pattern of nothing", "", 1, 0, Treegrab::pattern);
        refusedWithFault("pattern", "c=x < *=y < ", 1, 12, Treegrab::pattern);
        refusedWithFault("pattern of a long label", "c=x < !a|abcdefg", 2, 9, Treegrab::pattern);
        refusedWithFault("pattern of too many", "c=x $ *=y $ * $ * $ *", 3, 20, Treegrab::pattern);
        refusedWithFault("pattern of a name twice", "c=x $ *=x", 4, 8, Treegrab::pattern);
        refusedWithFault("script", "delete x; rename y", 1, 18, Treegrab::script);
        refusedWithFault("script of a long label", "rename y m; rename x abcdefg", 2, 21, Treegrab::script);
        refusedWithFault("script of too many", "delete x;".repeat(8) + "delete x", 3, 72, Treegrab::script);
    }

    /** An edit that cannot be done: no place goes first, and nothing is done. */
    private static void refusedEdits() {
        String[] scripts = {"delete x", "rename y m; wrap y k; excise y", "add m last x; delete y; rename y k"};
        for (String script : scripts) {
            Treegrab t = busy();
            script(t, script);
            String before = told(t);
            due(script, ISE, () -> t.edit(0));
            due(script + ", elsewhere", ISE, () -> t.edit(1));
            due(script + ", without a tree", 0, () -> t.edit(2));
            for (int place : NO_PLACES) {
                due(script + ", at " + place, IOOBE, () -> t.edit(place));
            }
            same(script + " leaves what is told", before, told(t));
            same(script + " leaves tree 0", "(a (n b) c)", shown(t, 0));
            same(script + " leaves tree 1", "(a b)", shown(t, 1));
            due(script + " leaves nothing to undo", ISE, () -> t.undo(1));
            due(script + " leaves the edit ahead of it", 3, () -> t.undo(0));
        }
    }

    public static void main(String[] arguments) {
        firstOfAll();
        refusedForPlaces();
        refusedForTheRest();
        refusedForFaults();
        refusedEdits();
        end();
    }
}
