/**
 * What the tests that are worked out by hand have in common: how a call is asked, how texts go over
 * the tape, and how an object is told.
 */
abstract class Kit {
    static final String IAE = "IllegalArgumentException";
    static final String ISE = "IllegalStateException";
    static final String IOOBE = "IndexOutOfBoundsException";
    static final int LEAST = Integer.MIN_VALUE;
    static final int MOST = Integer.MAX_VALUE;

    static final int TREE = 0;
    static final int PATTERN = 1;
    static final int SCRIPT = 2;

    private static int asked;
    private static int wrong;

    interface Call {
        long make();
    }

    static String answer(Call call) {
        try {
            return Long.toString(call.make());
        } catch (RuntimeException e) {
            return e.getClass().getSimpleName();
        }
    }

    static void due(String what, Object due, Call call) {
        same(what, due.toString(), answer(call));
    }

    static void same(String what, String due, String answer) {
        asked++;
        if (!due.equals(answer)) {
            wrong++;
            System.out.println(what + ": due " + due + ", answered " + answer);
        }
    }

    static void end() {
        System.out.println(asked + " asked, " + wrong + " wrong");
        if (wrong > 0) {
            System.exit(1);
        }
    }

    static long packed(String text) {
        long value = 0;
        for (int i = 0; i < text.length(); i++) {
            value |= (long) (text.charAt(i) & 255) << 8 * i;
        }
        return value;
    }

    static void feed(Treegrab t, String text) {
        for (int i = 0; i < text.length(); i += 8) {
            String some = text.substring(i, Math.min(i + 8, text.length()));
            t.feed(packed(some), some.length());
        }
    }

    static int plant(Treegrab t, int place, String text) {
        feed(t, text);
        return t.plant(place);
    }

    static int pattern(Treegrab t, String text) {
        feed(t, text);
        return t.pattern();
    }

    static int script(Treegrab t, String text) {
        feed(t, text);
        return t.script();
    }

    /** An object with a tree at a place, a pattern and a script. */
    static Treegrab made(int place, String tree, String pattern, String script) {
        Treegrab t = new Treegrab();
        plant(t, place, tree);
        pattern(t, pattern);
        script(t, script);
        return t;
    }

    static String out(Treegrab t, int length) {
        StringBuilder text = new StringBuilder();
        long eight = 0;
        for (int i = 0; i < length; i++) {
            eight = i % 8 == 0 ? t.word(i / 8) : eight >>> 8;
            text.append((char) (eight & 255));
        }
        return text.toString();
    }

    static String shown(Treegrab t, int place) {
        return out(t, t.show(place));
    }

    /** All matches, found in both ways, as for instance 0.3 0.4 for two of two nodes each. */
    static String found(Treegrab t, int place, int numbered) {
        StringBuilder planned = new StringBuilder();
        StringBuilder tried = new StringBuilder();
        for (int match = 0; match < t.matches(place); match++) {
            for (int number = 0; number < numbered; number++) {
                planned.append(number > 0 ? "." : match > 0 ? " " : "").append(t.matchAt(place, match, number));
            }
        }
        for (int match = 0; match < t.matchesByTrying(place); match++) {
            for (int number = 0; number < numbered; number++) {
                tried.append(number > 0 ? "." : match > 0 ? " " : "").append(t.matchAtByTrying(place, match, number));
            }
        }
        return planned.toString().equals(tried.toString()) ? planned.toString() : planned + " BUT " + tried;
    }

    static void grab(String tree, String pattern, String due) {
        Treegrab t = new Treegrab();
        plant(t, 0, tree);
        int numbered = pattern(t, pattern);
        same(pattern + " in " + tree, due, found(t, 0, numbered));
    }

    static void planned(String tree, String pattern, String due) {
        Treegrab t = new Treegrab();
        plant(t, 1, tree);
        pattern(t, pattern);
        StringBuilder steps = new StringBuilder();
        int step = 0;
        try {
            for (; step < 9; step++) {
                steps.append(t.planAt(1, step));
            }
        } catch (IndexOutOfBoundsException e) {
            steps.append('.');
        }
        same("plan of " + pattern, due, steps.toString());
    }

    /** What an edit answers, and the tree behind it. */
    static void edited(String tree, String pattern, String script, String due) {
        Treegrab t = made(2, tree, pattern, script);
        String before = shown(t, 2);
        String answer;
        try {
            answer = t.edit(2) + " " + shown(t, 2);
        } catch (IllegalStateException e) {
            answer = before.equals(shown(t, 2)) ? ISE : ISE + " and changed";
        }
        same(script + " in " + tree + " by " + pattern, due, answer);
    }

    static int take(Treegrab t, int taker) {
        return taker == TREE ? t.plant(0) : taker == PATTERN ? t.pattern() : t.script();
    }

    /** A text with a fault, told with its code and place; and the tape is used up. */
    static void faulty(int taker, String text, int code, int place) {
        Treegrab t = new Treegrab();
        feed(t, text);
        due("<" + text + "> throws", ISE, () -> take(t, taker));
        due("<" + text + "> code", code, () -> t.fault(false));
        due("<" + text + "> place", place, () -> t.fault(true));
        due("<" + text + "> is used up", 1, () -> t.feed('a', 1));
    }

    static void whole(int taker, String text, int answer) {
        Treegrab t = new Treegrab();
        feed(t, text);
        due("<" + text + ">", answer, () -> take(t, taker));
        due("<" + text + "> code", 0, () -> t.fault(false));
        due("<" + text + "> place", 0, () -> t.fault(true));
        due("<" + text + "> is used up", 1, () -> t.feed('a', 1));
    }
}
