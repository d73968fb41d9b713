/**
 * The bounds that the document names for matches and plans: what each OPERATOR tells at the edges of a tree,
 * parts with ! and ?, the order of matches, which matches, numbers and steps there are, and that nothing of an
 * earlier search is left when a tree or the pattern is another.
 */
public class MatchTest extends Kit {
    private static final int FULL = 20;

    private static String flat(int nodes) {
        return "(r" + " w".repeat(nodes - 1) + ")";
    }

    private static String chain(int nodes) {
        return "(c".repeat(nodes - 1) + " e" + ")".repeat(nodes - 1);
    }

    /** One node: it has no parent, no children, no siblings, and no word beside its own. */
    private static void theSmallestTree() {
        String[] operators = {"<", "<<", "<:", "<1", "<-1", "<9", ">", ">>", ">:", ">1", ">-1", ".", "..", ",", ",,",
            "$", "$.", "$..", "$,", "$,,"};
        for (String operator : operators) {
            grab("a", "* " + operator + " *", "");
            grab("a", "* !" + operator + " *", "0");
            grab("a", "* ?" + operator + " *", "0.-1");
            grab("a", "*=x " + operator + " =x", "");
            grab("a", "*=x !" + operator + " =x", "0");
        }
        grab("a", "*", "0");
        grab("a", "a", "0");
        grab("a", "!a", "");
        grab("a", "!b", "0");
        grab("a", "b", "");
    }

    /** "It is the parent", "just one child", "child n, counted from 1, ... from the last one (n is 1 .. 9)". */
    private static void dominance() {
        String two = "(a (b c) (d e f))";
        grab(two, "* < *", "0.1 0.3 1.2 3.4 3.5");
        grab(two, "* > *", "1.0 2.1 3.0 4.3 5.3");
        grab(two, "* << *", "0.1 0.2 0.3 0.4 0.5 1.2 3.4 3.5");
        grab(two, "* >> *", "1.0 2.0 2.1 3.0 4.0 4.3 5.0 5.3");
        grab(two, "* <: *", "1.2");
        grab(two, "* >: *", "2.1");
        grab(two, "* <1 *", "0.1 1.2 3.4");
        grab(two, "* <2 *", "0.3 3.5");
        grab(two, "* <3 *", "");
        grab(two, "* <-1 *", "0.3 1.2 3.5");
        grab(two, "* <-2 *", "0.1 3.4");
        grab(two, "* <-3 *", "");
        grab(two, "* >1 *", "1.0 2.1 4.3");
        grab(two, "* >2 *", "3.0 5.3");
        grab(two, "* >-1 *", "2.1 3.0 5.3");
        grab(two, "* >-2 *", "1.0 4.3");
        grab("(a b)", "* <: *", "0.1");
        grab("(a b c)", "* <: *", "");
        for (int kids = 1; kids < FULL; kids++) {
            for (int n = 1; n <= 9; n++) {
                boolean has = n <= kids;
                grab(flat(kids + 1), "r <" + n + " *", has ? "0." + n : "");
                grab(flat(kids + 1), "r <-" + n + " *", has ? "0." + (kids + 1 - n) : "");
                grab(flat(kids + 1), "* >" + n + " *", has ? n + ".0" : "");
                grab(flat(kids + 1), "* >-" + n + " *", has ? kids + 1 - n + ".0" : "");
            }
        }
        grab(chain(FULL), "e >> *", "19.0 19.1 19.2 19.3 19.4 19.5 19.6 19.7 19.8 19.9 19.10 19.11 19.12 19.13 19.14 19.15"
            + " 19.16 19.17 19.18");
        grab(chain(FULL), "* <: e", "18.19");
        grab(chain(3), "* << *", "0.1 0.2 1.2");
    }

    /** "Just ahead of", "ahead of", "just behind", "behind": the first and the last word, and nodes one in the other. */
    private static void orderOfWords() {
        // 0 a, 1 b, 2 c, 3 d, 4 e, 5 f, 6 g; words c d f g
        String tree = "(a (b c d) (e f) g)";
        grab(tree, "* . *", "1.4 1.5 2.3 3.4 3.5 4.6 5.6");
        grab(tree, "* , *", "3.2 4.1 4.3 5.1 5.3 6.4 6.5");
        grab(tree, "* .. *", "1.4 1.5 1.6 2.3 2.4 2.5 2.6 3.4 3.5 3.6 4.6 5.6");
        grab(tree, "* ,, *", "3.2 4.1 4.2 4.3 5.1 5.2 5.3 6.1 6.2 6.3 6.4 6.5");
        grab(tree, "c ,, *", "");
        grab(tree, "g .. *", "");
        grab(tree, "a .. *", "");
        grab(tree, "a ,, *", "");
        grab(tree, "b . c", "");
        grab(tree, "d . b", "");
        grab(flat(3), "* . *", "1.2");
        grab(chain(FULL), "* .. *", "");
        grab(chain(FULL), "* , *", "");
    }

    /** "Both have the same parent and are not the same", "the next child", "comes later", "comes earlier". */
    private static void siblings() {
        // 0 a, 1 b, 2 c, 3 d, 4 e, 5 f
        String tree = "(a b (c d) e f)";
        grab(tree, "* $ *", "1.2 1.4 1.5 2.1 2.4 2.5 4.1 4.2 4.5 5.1 5.2 5.4");
        grab(tree, "* $. *", "1.2 2.4 4.5");
        grab(tree, "* $, *", "2.1 4.2 5.4");
        grab(tree, "* $.. *", "1.2 1.4 1.5 2.4 2.5 4.5");
        grab(tree, "* $,, *", "2.1 4.1 4.2 5.1 5.2 5.4");
        grab(tree, "a $ *", "");
        grab(tree, "* $ a", "");
        grab(tree, "d $ *", "");
        grab(tree, "*=x $ =x", "");
        grab(tree, "*=x !$ =x", "0 1 2 3 4 5");
        grab("(a (b c) (b c))", "c $ *", "");
        grab("(a (b c) (b c))", "c . c", "2.4");
    }

    /** "* (any)", "one of these labels", "none of these labels", "the label of the node x": the root's as any other's. */
    private static void labelsFit() {
        String tree = "(a b (ab a) B a)";
        grab(tree, "*", "0 1 2 3 4 5");
        grab(tree, "a", "0 3 5");
        grab(tree, "a|b", "0 1 3 5");
        grab(tree, "B|ab|c", "2 4");
        grab(tree, "!a", "1 2 4");
        grab(tree, "!a|b|ab|B", "");
        grab(tree, "!c", "0 1 2 3 4 5");
        grab(tree, "*=x << ~x", "0.3 0.5");
        grab(tree, "*=x >> ~x", "3.0 5.0");
        grab(tree, "*=x !>> ~x", "0 1 2 4");
        grab(tree, "*=x !<< ~x", "1 2 3 4 5");
        grab(tree, "a=x < b", "0.1");
        grab("(a a)", "*=x < ~x", "0.1");
        grab("(a b)", "*=x < ~x", "");
        grab("(abcdef abcdeg abcde)", "abcdef", "0");
        grab("(abcdef abcdeg abcde)", "abcdeg|abcde", "1 2");
        grab("(z (a z) (y a))", "*=x << (~x=y > *=z)", "0.2.1");
    }

    /** "No node of the tree for its other node that would be as it says, with its own relations", the root's too. */
    private static void whatIsDenied() {
        String tree = "(a (b c c) (c b))";
        grab(tree, "* !< c", "2 3 4 5");
        grab(tree, "* !< !c", "1 2 3 5");
        grab(tree, "* !> a", "0 2 3 5");
        grab(tree, "* !>> *", "0");
        grab(tree, "* !>> a", "0");
        grab(tree, "* !>> (* !> *)", "0");
        grab(tree, "* !>> (* > *)", "0 1 4");
        grab(tree, "* !> (* !$ *)", "0 2 3 5");
        grab(tree, "* !< (* !< (* !< *))", "0 2 3 5");
        grab(tree, "* !< (b < c < c)", "1 2 3 4 5");
        grab(tree, "* !< (b < (c $ c))", "1 2 3 4 5");
        grab(tree, "* !< (b < (c < c))", "0 1 2 3 4 5");
        grab(tree, "*=x !< (*=y !< *)", "0 2 3 5");
        grab(tree, "*=x < c=y !$ (* < ~x)", "0.4");
        grab(tree, "a=x < b=y !<< (* > =x > =y)", "0.1");
        grab(tree, "a=x << c=y !<< (* > =x)", "");
        grab(tree, "b=x !<< (c $ c)", "5");
        grab(tree, "b=x !<< (c !$ c)", "1 5");
        grab(tree, "* !. * !, *", "0");
    }

    /** "If that can be; if it cannot, it gives none (-1) to them": to all of a part, and to no other. */
    private static void whatIsOptional() {
        String tree = "(a (b c c) (c b))";
        grab(tree, "a ?< b", "0.1");
        grab(tree, "a ?< d", "0.-1");
        grab(tree, "a ?< (b < d)", "0.-1.-1");
        grab(tree, "a ?< (b < c)", "0.1.2 0.1.3");
        grab(tree, "a ?< (b < c < d)", "0.-1.-1.-1");
        grab(tree, "a ?< (b !< d)", "0.1");
        grab(tree, "a ?< (b !< c)", "0.-1");
        grab(tree, "a ?< b ?< d ?< c", "0.1.-1.4");
        grab(tree, "a ?< d ?< b ?< d", "0.-1.1.-1");
        grab(tree, "a ?< d < b", "0.-1.1");
        grab(tree, "a < (b ?< c) < c", "0.1.2.4 0.1.3.4");
        grab(tree, "a < (b ?< d) < c", "0.1.-1.4");
        grab(tree, "a < b|c=x ?< (c > =x)", "0.1.-1 0.4.-1");
        grab(tree, "d ?< b", "");
        grab(tree, "a < d ?< b", "");
        grab(tree, "a ?< b !< d", "0.1");
        grab(tree, "a ?< b !< c", "");
        grab(tree, "*=x ?> (* !> =x)", "0.-1 1.0 2.1 3.1 4.0 5.4");
        grab(tree, "*=x ?> ~x", "0.-1 1.-1 2.-1 3.-1 4.-1 5.-1");
        grab(tree, "*=x ?$ ~x", "0.-1 1.-1 2.3 3.2 4.-1 5.-1");
        grab(tree, "c=x ?$ ~x ?> b=y", "2.3.1 3.2.1 4.-1.-1");
    }

    /** "All matches that there are count, each once", "ordered by the node that they give to 0, then by that for 1". */
    private static void allAndEachOnce() {
        grab("(a a a)", "a $ a", "1.2 2.1");
        grab("(a a a)", "* < * < *", "0.1.1 0.1.2 0.2.1 0.2.2");
        grab("(a a a)", "*=x < * !< =x", "0.1 0.2");
        grab("(a b b)", "*=x < b=y < =y", "0.1 0.2");
        grab("(a b b)", "b > (* < b)", "1.0.1 1.0.2 2.0.1 2.0.2");
        grab("(a (b c) (b c))", "c > b > *", "2.1.1 4.3.3");
        grab("(a b b)", "* < b|b|b", "0.1 0.2");
        grab("(a b b)", "* ?< b ?< b", "0.1.1 0.1.2 0.2.1 0.2.2 1.-1.-1 2.-1.-1");
        Treegrab t = new Treegrab();
        plant(t, 0, flat(FULL));
        pattern(t, "r < * < * < *");
        due("19 cubed", 19 * 19 * 19, () -> t.matches(0));
        due("19 cubed, tried", 19 * 19 * 19, () -> t.matchesByTrying(0));
        for (int match = 0; match < 19 * 19 * 19; match += 137) {
            int m = match;
            due("1 of " + m, 1 + m / 361, () -> t.matchAt(0, m, 1));
            due("2 of " + m, 1 + m / 19 % 19, () -> t.matchAtByTrying(0, m, 2));
            due("3 of " + m, 1 + m % 19, () -> t.matchAt(0, m, 3));
        }
        due("the last one", 19, () -> t.matchAt(0, 6858, 3));
        due("the last one, tried", 19, () -> t.matchAtByTrying(0, 6858, 1));
        due("one more", IOOBE, () -> t.matchAt(0, 6859, 3));
        due("one more, tried", IOOBE, () -> t.matchAtByTrying(0, 6859, 3));
    }

    private interface Asker {
        long ask(Treegrab t, int place, int match, int number);
    }

    /** "As told, also of the match (from 0) and the number"; -1 is an answer, and no exception. */
    private static void whichMatchesThereAre() {
        Asker[] askers = {Treegrab::matchAt, Treegrab::matchAtByTrying};
        for (Asker asker : askers) {
            Treegrab none = new Treegrab();
            due("no tree, no pattern", IOOBE, () -> asker.ask(none, 0, 0, 0));
            plant(none, 0, "a");
            due("no pattern", IOOBE, () -> asker.ask(none, 0, 0, 0));
            pattern(none, "a");
            due("both", 0, () -> asker.ask(none, 0, 0, 0));
            due("no tree", IOOBE, () -> asker.ask(none, 1, 0, 0));
            pattern(none, "b");
            due("no match", IOOBE, () -> asker.ask(none, 0, 0, 0));
            String[] patterns = {"b", "a < b", "a < b ?< c", "a < b ?< c ?< d"};
            for (int numbered = 1; numbered <= 4; numbered++) {
                Treegrab t = new Treegrab();
                plant(t, 2, "(a b b b)");
                pattern(t, patterns[numbered - 1]);
                int[] bad = {LEAST, -1, 3, 4, 1 << 16, MOST};
                for (int match : bad) {
                    due("match " + match, IOOBE, () -> asker.ask(t, 2, match, 0));
                }
                int[] none4 = {LEAST, -1, numbered, numbered + 1, 4, 8, 20, MOST};
                for (int number : none4) {
                    due("number " + number + " of " + numbered, IOOBE, () -> asker.ask(t, 2, 0, number));
                    due("number " + number + " of " + numbered, IOOBE, () -> asker.ask(t, 2, 2, number));
                }
                int last = numbered - 1;
                due("the last of the last", numbered == 1 ? 3 : numbered == 2 ? 3 : -1, () -> asker.ask(t, 2, 2, last));
                due("the first of the first", numbered == 1 ? 1 : 0, () -> asker.ask(t, 2, 0, 0));
                due("no match and no number", IOOBE, () -> asker.ask(t, 2, 3, 4));
                due("no place, no match and no number", IOOBE, () -> asker.ask(t, 3, 3, 4));
            }
        }
    }

    /** "Or if the plan has no such step, or there is no tree or pattern". */
    private static void whichStepsThereAre() {
        Treegrab none = new Treegrab();
        due("no tree, no pattern", IOOBE, () -> none.planAt(0, 0));
        plant(none, 0, "a");
        due("no pattern", IOOBE, () -> none.planAt(0, 0));
        pattern(none, "b ?< c !< d");
        due("a plan without a match", 0, () -> none.planAt(0, 0));
        due("no tree there", IOOBE, () -> none.planAt(1, 0));
        String[] patterns = {"b=x ?< c ?< d !< e", "a < b ?< c !< b", "a < b < c ?< d", "a < b < c < d"};
        for (int steps = 1; steps <= 4; steps++) {
            Treegrab t = new Treegrab();
            plant(t, 1, "(a b b c d)");
            pattern(t, patterns[steps - 1]);
            int[] bad = {LEAST, -1, steps, steps + 1, 4, 8, MOST};
            for (int step : bad) {
                due("step " + step + " of " + steps, IOOBE, () -> t.planAt(1, step));
                due("step " + step + " of " + steps + " at no place", IOOBE, () -> t.planAt(-1, step));
            }
            int last = steps - 1;
            due("the last step of " + steps, 1, () -> t.planAt(1, last) >= 0 ? 1 : 0);
        }
    }

    /** "First the one which the fewest nodes fit, by their labels alone", "of several the lowest one". */
    private static void whatThePlanIs() {
        String tree = "(a (b c c) (b d) e)";
        planned(tree, "*", "0.");
        planned(tree, "z", "0.");
        planned(tree, "* < *", "01.");
        planned(tree, "* < a", "10.");
        planned(tree, "b < c", "01.");
        planned(tree, "b < d", "10.");
        planned(tree, "* < !z", "01.");
        planned(tree, "* < !a", "10.");
        planned(tree, "a < z", "10.");
        planned(tree, "a < e", "01.");
        planned(tree, "e < a", "01.");
        planned(tree, "b|d < c|d", "01.");
        planned(tree, "b|c < d|c", "10.");
        planned(tree, "*=x < ~x", "01.");
        planned(tree, "b=x < ~x", "01.");
        planned(tree, "*=x < ~x < a", "201.");
        // only what is joined to a bound one comes next, though another is fitted by fewer
        planned(tree, "e < (* < (* < a))", "0123.");
        planned(tree, "* < (* < (* < a))", "3210.");
        planned(tree, "* < (b < a) < d", "2103.");
        planned(tree, "c < (b < *) < a", "3012.");
        // a ! part and a ? part join nothing
        planned(tree, "* ?< a", "0.");
        planned(tree, "* !< a", "0.");
        planned(tree, "* ?< (a < e) < b", "30.");
        planned(tree, "b=x ?< (a < e) < *=y", "03.");
        // =x joins at either side
        planned(tree, "*=x < c=y < (a < =y)", "210.");
        planned(tree, "*=x < *=y < (a < =y)", "201.");
        planned(tree, "*=x < (* < *=y) < (=y < a)", "3201.");
        planned(tree, "*=x < *=y < (=x < a)", "201.");
        planned(tree, "*=x < *=y !< (=y < =x) < a", "201.");
    }

    private static String asked(Treegrab t, int place, int numbered) {
        StringBuilder plan = new StringBuilder();
        for (int step = 0; step < 4; step++) {
            int s = step;
            plan.append(answer(() -> t.planAt(place, s))).append(' ');
        }
        return found(t, place, numbered) + " by " + plan;
    }

    private static String anew(String tree, String pattern) {
        Treegrab t = new Treegrab();
        plant(t, 0, tree);
        int numbered = pattern(t, pattern);
        return asked(t, 0, numbered);
    }

    private static final String[] TREES = {"a", "(a a)", "(a b a)", "(b (a b))", "(b (a a) b)", "(a (b (a b)))", "(a b b a)"};
    private static final String[] PATTERNS = {"*", "a < *", "*=x << ~x", "* !< *", "* ?< (a !< b)", "*=x $ *=y !, =y",
        "* < (* ?< b)", "* !> (b !> *)", "b|a ,, *", "*=x >: (* !< (* $ =x))", "a=x ?<1 ~x ?<-1 b", "b .. a", "*=x !< ~x"};

    /** A tree or a pattern after another in one object gives what it gives in a new one, whichever is asked first. */
    private static void nothingIsLeft() {
        for (String pattern : PATTERNS) {
            Treegrab t = new Treegrab();
            int numbered = pattern(t, pattern);
            for (int i = 0; i < TREES.length; i++) {
                plant(t, i % 2, TREES[i]);
                same(pattern + " next in " + TREES[i], anew(TREES[i], pattern), asked(t, i % 2, numbered));
            }
        }
        for (String tree : TREES) {
            Treegrab t = new Treegrab();
            plant(t, 2, tree);
            for (String pattern : PATTERNS) {
                int numbered = pattern(t, pattern);
                same(tree + " next by " + pattern, anew(tree, pattern), asked(t, 2, numbered));
            }
        }
        for (String pattern : PATTERNS) {
            Treegrab t = new Treegrab();
            plant(t, 0, "(b (a a) b)");
            plant(t, 1, "(a b b a)");
            int numbered = pattern(t, pattern);
            String first = anew("(b (a a) b)", pattern);
            String second = anew("(a b b a)", pattern);
            same(pattern + ", place 0", first, asked(t, 0, numbered));
            same(pattern + ", place 1", second, asked(t, 1, numbered));
            same(pattern + ", place 0 again", first, asked(t, 0, numbered));
            due(pattern + ", place 2", 0, () -> t.matches(2));
            due(pattern + ", place 2 tried", 0, () -> t.matchesByTrying(2));
            same(pattern + ", place 1 again", second, asked(t, 1, numbered));
        }
    }

    /** Each of the calls that look for matches finds them when it is the first that does. */
    private static void whicheverIsAskedFirst() {
        for (int place = 0; place < 3; place++) {
            int p = place;
            Treegrab t = new Treegrab();
            plant(t, p, "(a b (c b))");
            pattern(t, "* < b");
            due("tried first", 2, () -> t.matchesByTrying(p));
            pattern(t, "c < b");
            due("tried match first", 3, () -> t.matchAtByTrying(p, 0, 1));
            pattern(t, "a < b");
            due("match first", 1, () -> t.matchAt(p, 0, 1));
            pattern(t, "a < c");
            due("matches first", 1, () -> t.matches(p));
            pattern(t, "b > c");
            due("plan first", 1, () -> t.planAt(p, 0));
            due("then tried", 1, () -> t.matchesByTrying(p));
            pattern(t, "c=x");
            script(t, "rename x b");
            due("edit first", 1, () -> t.edit(p));
            due("tried behind an edit", 0, () -> t.matchesByTrying(p));
            due("matches behind an edit", 0, () -> t.matches(p));
            due("plan behind an edit", 0, () -> t.planAt(p, 0));
            t.undo(p);
            due("tried behind undoing", 2, () -> t.matchAtByTrying(p, 0, 0));
            due("matches behind undoing", 2, () -> t.matchAt(p, 0, 0));
        }
    }

    public static void main(String[] arguments) {
        theSmallestTree();
        dominance();
        orderOfWords();
        siblings();
        labelsFit();
        whatIsDenied();
        whatIsOptional();
        allAndEachOnce();
        whichMatchesThereAre();
        whichStepsThereAre();
        whatThePlanIs();
        nothingIsLeft();
        whicheverIsAskedFirst();
        end();
    }
}
