import java.util.ArrayList;
import java.util.Arrays;
import java.util.HashMap;
import java.util.List;
import java.util.Map;
import java.util.TreeSet;
import java.util.function.Function;

/**
 * Runs of made-up calls, each asked of the program and of a model that is written plainly from the
 * document: trees of linked nodes, texts read by descent, matches by trying every assignment.
 */
public class OracleTest {

    // ---- the model's texts

    private static final class Fault extends Exception {
        private static final long serialVersionUID = 1L;
        final int code;
        final int place;

        Fault(int code, int place) {
            this.code = code;
            this.place = place;
        }
    }

    private static class Reader {
        final String text;
        int at;

        Reader(String text) {
            this.text = text;
        }

        char peek() {
            while (at < text.length() && "\t \n".indexOf(text.charAt(at)) >= 0) {
                at++;
            }
            return raw();
        }

        /** The byte at which the reading stands; a sign that no text holds at the end. */
        char raw() {
            return at < text.length() ? text.charAt(at) : '\uffff';
        }

        boolean ended() {
            return peek() == '\uffff';
        }

        boolean has(String begin) {
            peek();
            return text.startsWith(begin, at);
        }

        Fault wrong() {
            peek();
            return new Fault(1, at);
        }

        /** The letters and digits that begin with a letter here; empty if none do. */
        String run() {
            peek();
            int end = at;
            while (end < text.length() && String.valueOf(text.charAt(end)).matches(end == at ? "[a-zA-Z]" : "[a-zA-Z0-9]")) {
                end++;
            }
            return text.substring(at, end);
        }

        String label() throws Fault {
            String run = run();
            if (run.isEmpty()) {
                throw wrong();
            }
            if (run.length() > 6) {
                throw new Fault(2, at);
            }
            at += run.length();
            return run;
        }

        void sign(char due) throws Fault {
            if (peek() != due) {
                throw wrong();
            }
            at++;
        }
    }

    // ---- the model's trees

    private static final class Knot {
        String label;
        Knot parent;
        final List<Knot> kids = new ArrayList<>();

        Knot(String label) {
            this.label = label;
        }

        void list(List<Knot> all) {
            all.add(this);
            for (Knot kid : kids) {
                kid.list(all);
            }
        }

        Knot copy() {
            Knot copy = new Knot(label);
            for (Knot kid : kids) {
                copy.insert(copy.kids.size(), kid.copy());
            }
            return copy;
        }

        void insert(int rank, Knot kid) {
            kids.add(rank, kid);
            kid.parent = this;
        }

        boolean isBelow(Knot other) {
            for (Knot up = parent; up != null; up = up.parent) {
                if (up == other) {
                    return true;
                }
            }
            return false;
        }

        String text() {
            if (kids.isEmpty()) {
                return label;
            }
            StringBuilder text = new StringBuilder("(" + label);
            for (Knot kid : kids) {
                text.append(' ').append(kid.text());
            }
            return text.append(')').toString();
        }
    }

    private static final class TreeReader extends Reader {
        private int count;

        TreeReader(String text) {
            super(text);
        }

        Knot whole() throws Fault {
            Knot root = tree();
            if (!ended()) {
                throw wrong();
            }
            return root;
        }

        private Knot tree() throws Fault {
            boolean bracket = peek() == '(';
            int start = at;
            if (!bracket) {
                Knot word = new Knot(label());
                room(start);
                return word;
            }
            room(start);
            at++;
            Knot knot = new Knot(label());
            while (peek() != ')') {
                knot.insert(knot.kids.size(), tree());
            }
            at++;
            return knot;
        }

        private void room(int start) throws Fault {
            count++;
            if (count > 20) {
                throw new Fault(3, start);
            }
        }
    }

    private static final class Wood {
        final Knot root;
        final List<Knot> all = new ArrayList<>();
        final List<Knot> words = new ArrayList<>();

        Wood(Knot root) {
            this.root = root;
            root.list(all);
            for (Knot knot : all) {
                if (knot.kids.isEmpty()) {
                    words.add(knot);
                }
            }
        }

        int word(Knot knot, boolean last) {
            int answer = -1;
            for (int i = 0; i < words.size(); i++) {
                boolean own = words.get(i) == knot || words.get(i).isBelow(knot);
                if (own && (last || answer < 0)) {
                    answer = i;
                }
            }
            return answer;
        }

        boolean holds(String operator, Knot it, Knot other) {
            char first = operator.charAt(0);
            if (first == '>') {
                return holds(operator.replace('>', '<'), other, it);
            }
            if (first == '<') {
                return dominates(operator.substring(1), it, other);
            }
            switch (operator) {
                case ".":
                    return word(it, true) + 1 == word(other, false);
                case "..":
                    return word(it, true) < word(other, false);
                case ",":
                    return word(it, false) == word(other, true) + 1;
                case ",,":
                    return word(it, false) > word(other, true);
                default:
                    break;
            }
            if (it.parent == null || it == other || it.parent != other.parent) {
                return false;
            }
            int ahead = it.parent.kids.indexOf(other) - it.parent.kids.indexOf(it);
            switch (operator) {
                case "$":
                    return true;
                case "$.":
                    return ahead == 1;
                case "$..":
                    return ahead > 0;
                case "$,":
                    return ahead == -1;
                default:
                    return ahead < 0;
            }
        }

        private boolean dominates(String rest, Knot it, Knot other) {
            if (rest.equals("<")) {
                return other.isBelow(it);
            }
            if (other.parent != it) {
                return false;
            }
            if (rest.isEmpty()) {
                return true;
            }
            if (rest.equals(":")) {
                return it.kids.size() == 1;
            }
            int n = Integer.parseInt(rest);
            int rank = n > 0 ? n - 1 : it.kids.size() + n;
            return rank >= 0 && rank < it.kids.size() && it.kids.get(rank) == other;
        }
    }

    // ---- the model's patterns

    private static final class Spec {
        char kind;
        List<String> labels = new ArrayList<>();
        Spec told;
        char name;
        boolean denied;
        Spec optional;
        int number = -1;
        final List<Tie> ties = new ArrayList<>();

        Spec real() {
            return kind == '=' ? told : this;
        }

        boolean isNeeded() {
            return !denied && optional == null;
        }
    }

    private static final class Tie {
        char mark;
        String operator;
        Spec other;
    }

    private static final class Pattern extends Reader {
        private static final String[] OPERATORS = {
            "<<", "<:", ">>", ">:", "$..", "$.", "$,,", "$,", "$", "..", ".", ",,", ","};
        final List<Spec> written = new ArrayList<>();
        final List<Spec> numbered = new ArrayList<>();
        final Map<Character, Spec> names = new HashMap<>();
        final Spec top;

        Pattern(String text) throws Fault {
            super(text);
            top = part(false, null, false);
            if (!ended()) {
                throw wrong();
            }
        }

        private Spec part(boolean denied, Spec optional, boolean beginsOptional) throws Fault {
            Spec spec = node(denied, optional, beginsOptional);
            while (!ended() && peek() != ')') {
                spec.ties.add(tie(spec));
            }
            return spec;
        }

        private Tie tie(Spec spec) throws Fault {
            Tie tie = new Tie();
            tie.mark = peek() == '!' || peek() == '?' ? peek() : ' ';
            if (tie.mark == '?' && !spec.isNeeded()) {
                throw wrong();
            }
            at += tie.mark == ' ' ? 0 : 1;
            tie.operator = operator();
            boolean denied = spec.denied || tie.mark == '!';
            boolean bracket = peek() == '(';
            at += bracket ? 1 : 0;
            tie.other = bracket ? part(denied, spec.optional, tie.mark == '?') : node(denied, spec.optional, tie.mark == '?');
            if (bracket) {
                sign(')');
            }
            return tie;
        }

        private String operator() throws Fault {
            for (String operator : OPERATORS) {
                if (has(operator)) {
                    at += operator.length();
                    return operator;
                }
            }
            if (peek() != '<' && peek() != '>') {
                throw wrong();
            }
            String base = String.valueOf(peek());
            at++;
            boolean minus = raw() == '-';
            at += minus ? 1 : 0;
            char digit = raw();
            if (digit >= '1' && digit <= '9') {
                at++;
                return base + (minus ? "-" : "") + digit;
            }
            if (minus) {
                throw new Fault(1, at);
            }
            return base;
        }

        private Spec node(boolean denied, Spec optional, boolean beginsOptional) throws Fault {
            char first = peek();
            boolean letter = !run().isEmpty();
            if (!letter && "*=~!".indexOf(first) < 0) {
                throw wrong();
            }
            if (letter && run().length() > 6) {
                throw new Fault(2, at);
            }
            Spec spec = new Spec();
            spec.kind = letter ? '|' : first;
            spec.denied = denied;
            spec.optional = beginsOptional ? spec : optional;
            if (written.size() == 8 || first != '=' && !denied && numbered.size() == 4) {
                throw new Fault(3, at);
            }
            written.add(spec);
            if (first != '=' && !denied) {
                spec.number = numbered.size();
                numbered.add(spec);
            }
            at += letter ? 0 : 1;
            if (first == '=' || first == '~') {
                char name = name();
                spec.told = names.get(name);
                if (spec.told == null || !spec.told.isNeeded()) {
                    throw new Fault(4, at - 1);
                }
            } else if (first != '*') {
                spec.labels.add(label());
                while (peek() == '|') {
                    at++;
                    spec.labels.add(label());
                }
            }
            if (first != '=' && peek() == '=') {
                at++;
                spec.name = name();
                if (names.containsKey(spec.name)) {
                    throw new Fault(4, at - 1);
                }
                names.put(spec.name, spec);
            }
            return spec;
        }

        private char name() throws Fault {
            char name = peek();
            if (name < 'a' || name > 'z') {
                throw wrong();
            }
            at++;
            return name;
        }
    }

    // ---- the model's matches

    private static final class Matcher {
        final Wood wood;
        final Pattern pattern;
        final Map<Spec, Knot> given = new HashMap<>();
        final List<int[]> found = new ArrayList<>();

        Matcher(Wood wood, Pattern pattern) {
            this.wood = wood;
            this.pattern = pattern;
            List<Spec> needed = new ArrayList<>();
            for (Spec spec : pattern.numbered) {
                if (spec.isNeeded()) {
                    needed.add(spec);
                }
            }
            TreeSet<String> texts = new TreeSet<>();
            Map<String, int[]> rows = new HashMap<>();
            tryAll(needed, 0, pattern.top, () -> {
                for (int[] row : withOptional()) {
                    StringBuilder key = new StringBuilder();
                    for (int node : row) {
                        key.append((char) ('B' + node));
                    }
                    texts.add(key.toString());
                    rows.put(key.toString(), row);
                }
            });
            for (String key : texts) {
                found.add(rows.get(key));
            }
        }

        private void tryAll(List<Spec> specs, int i, Spec top, Runnable then) {
            if (i == specs.size()) {
                if (isSo(top)) {
                    then.run();
                }
                return;
            }
            for (Knot knot : wood.all) {
                if (fits(specs.get(i), knot)) {
                    given.put(specs.get(i), knot);
                    tryAll(specs, i + 1, top, then);
                }
            }
            given.remove(specs.get(i));
        }

        /** Whether all that stands in a part is so, of the nodes that are given, parts with ? aside. */
        private boolean isSo(Spec top) {
            Knot knot = given.get(top.real());
            if (!isAs(top, knot)) {
                return false;
            }
            for (Tie tie : top.ties) {
                if (tie.mark == ' ') {
                    Knot other = given.get(tie.other.real());
                    if (!wood.holds(tie.operator, knot, other) || !isSo(tie.other)) {
                        return false;
                    }
                } else if (tie.mark == '!' && isFound(tie, knot)) {
                    return false;
                }
            }
            return true;
        }

        private boolean isFound(Tie tie, Knot knot) {
            for (Knot other : wood.all) {
                if (wood.holds(tie.operator, knot, other) && isSought(tie.other, other)) {
                    return true;
                }
            }
            return false;
        }

        private boolean isSought(Spec spec, Knot knot) {
            if (!isAs(spec, knot)) {
                return false;
            }
            for (Tie tie : spec.ties) {
                if (isFound(tie, knot) == (tie.mark == '!')) {
                    return false;
                }
            }
            return true;
        }

        private boolean fits(Spec spec, Knot knot) {
            return spec.kind == '|' ? spec.labels.contains(knot.label)
                : spec.kind != '!' || !spec.labels.contains(knot.label);
        }

        private boolean isAs(Spec spec, Knot knot) {
            if (spec.kind == '=') {
                return given.get(spec.told) == knot;
            }
            if (spec.kind == '~') {
                return given.get(spec.told).label.equals(knot.label);
            }
            return fits(spec, knot);
        }

        private List<int[]> withOptional() {
            int[] row = new int[pattern.numbered.size()];
            for (int i = 0; i < row.length; i++) {
                row[i] = pattern.numbered.get(i).isNeeded() ? wood.all.indexOf(given.get(pattern.numbered.get(i))) : -1;
            }
            List<int[]> rows = new ArrayList<>();
            rows.add(row);
            for (Spec spec : pattern.written) {
                for (Tie tie : spec.ties) {
                    if (tie.mark == '?') {
                        rows = crossed(rows, spec, tie);
                    }
                }
            }
            return rows;
        }

        private List<int[]> crossed(List<int[]> rows, Spec spec, Tie tie) {
            List<Spec> part = new ArrayList<>();
            for (Spec numbered : pattern.numbered) {
                if (numbered.optional == tie.other) {
                    part.add(numbered);
                }
            }
            List<int[]> ways = new ArrayList<>();
            Knot knot = given.get(spec.real());
            tryAll(part, 0, tie.other, () -> {
                if (wood.holds(tie.operator, knot, given.get(tie.other.real()))) {
                    int[] way = new int[part.size()];
                    for (int i = 0; i < way.length; i++) {
                        way[i] = wood.all.indexOf(given.get(part.get(i)));
                    }
                    ways.add(way);
                }
            });
            if (ways.isEmpty()) {
                return rows;
            }
            List<int[]> all = new ArrayList<>();
            for (int[] row : rows) {
                for (int[] way : ways) {
                    int[] one = row.clone();
                    for (int i = 0; i < way.length; i++) {
                        one[part.get(i).number] = way[i];
                    }
                    all.add(one);
                }
            }
            return all;
        }

        List<Integer> plan() {
            List<Integer> plan = new ArrayList<>();
            while (true) {
                int best = -1;
                for (Spec spec : pattern.numbered) {
                    if (spec.isNeeded() && !plan.contains(spec.number) && (plan.isEmpty() || isTied(spec, plan))
                            && (best < 0 || fitting(spec) < fitting(pattern.numbered.get(best)))) {
                        best = spec.number;
                    }
                }
                if (best < 0) {
                    return plan;
                }
                plan.add(best);
            }
        }

        private boolean isTied(Spec sought, List<Integer> plan) {
            for (Spec spec : pattern.written) {
                for (Tie tie : spec.ties) {
                    if (tie.mark == ' ' && tie.other.isNeeded()) {
                        Spec a = spec.real();
                        Spec b = tie.other.real();
                        if (a == sought && plan.contains(b.number) || b == sought && plan.contains(a.number)) {
                            return true;
                        }
                    }
                }
            }
            return false;
        }

        private int fitting(Spec spec) {
            int sum = 0;
            for (Knot knot : wood.all) {
                sum += fits(spec, knot) ? 1 : 0;
            }
            return sum;
        }
    }

    // ---- the model's scripts

    private static final class Order {
        String verb;
        char x;
        char y;
        String label;
        String where;
    }

    private static final class Script extends Reader {
        final List<Order> orders = new ArrayList<>();

        Script(String text) throws Fault {
            super(text);
            if (ended()) {
                return;
            }
            orders.add(order());
            while (!ended()) {
                sign(';');
                orders.add(order());
            }
        }

        private String one(String... words) throws Fault {
            String run = run();
            if (!Arrays.asList(words).contains(run)) {
                throw wrong();
            }
            return run;
        }

        private Order order() throws Fault {
            Order order = new Order();
            order.verb = one("rename", "delete", "excise", "wrap", "add", "move");
            if (orders.size() == 8) {
                throw new Fault(3, at);
            }
            at += order.verb.length();
            if (!order.verb.equals("add")) {
                order.x = name();
            }
            if (Arrays.asList("rename", "wrap", "add").contains(order.verb)) {
                order.label = label();
            }
            if (order.verb.equals("add") || order.verb.equals("move")) {
                order.where = one("first", "last", "before", "after");
                at += order.where.length();
                order.y = name();
            }
            return order;
        }

        private char name() throws Fault {
            String run = run();
            if (!run.matches("[a-z]")) {
                throw wrong();
            }
            at++;
            return run.charAt(0);
        }
    }

    private static final class Impossible extends Exception {
        private static final long serialVersionUID = 1L;
    }

    private static final class Editor {
        Knot root;
        int done;

        Editor(Knot root) {
            this.root = root;
        }

        private static void need(boolean so) throws Impossible {
            if (!so) {
                throw new Impossible();
            }
        }

        private boolean isIn(Knot knot) {
            return knot == root || knot.isBelow(root);
        }

        private int size() {
            return new Wood(root).all.size();
        }

        void perform(Order order, Knot x, Knot y) throws Impossible {
            need(x == null || isIn(x));
            need(y == null || isIn(y));
            switch (order.verb) {
                case "rename":
                    x.label = order.label;
                    break;
                case "delete":
                    remove(x);
                    break;
                case "excise":
                    excise(x);
                    break;
                case "wrap":
                    wrap(x, order.label);
                    break;
                case "add":
                    need(size() < 20);
                    place(new Knot(order.label), order.where, y);
                    break;
                default:
                    move(x, order.where, y);
                    break;
            }
            done++;
        }

        private void remove(Knot x) throws Impossible {
            need(x != root);
            Knot parent = x.parent;
            parent.kids.remove(x);
            x.parent = null;
            if (parent.kids.isEmpty()) {
                remove(parent);
            }
        }

        private void replace(Knot x, Knot with) {
            Knot parent = x.parent;
            if (parent == null) {
                root = with;
                with.parent = null;
            } else {
                parent.insert(parent.kids.indexOf(x), with);
                parent.kids.remove(x);
            }
            x.parent = null;
        }

        private void excise(Knot x) throws Impossible {
            need(!x.kids.isEmpty());
            if (x == root) {
                need(x.kids.size() == 1);
                replace(x, x.kids.get(0));
                return;
            }
            for (Knot kid : x.kids) {
                x.parent.insert(x.parent.kids.indexOf(x), kid);
            }
            x.parent.kids.remove(x);
            x.parent = null;
        }

        private void wrap(Knot x, String label) throws Impossible {
            need(size() < 20);
            Knot cover = new Knot(label);
            replace(x, cover);
            cover.insert(0, x);
        }

        private void place(Knot x, String where, Knot y) throws Impossible {
            if (where.equals("first") || where.equals("last")) {
                need(!y.kids.isEmpty());
                y.insert(where.equals("first") ? 0 : y.kids.size(), x);
            } else {
                need(y != root);
                y.parent.insert(y.parent.kids.indexOf(y) + (where.equals("after") ? 1 : 0), x);
            }
        }

        private void move(Knot x, String where, Knot y) throws Impossible {
            need(x != root && y != x && !y.isBelow(x));
            Knot left = x.parent;
            Knot stay = new Knot("stay");
            replace(x, stay);
            place(x, where, y);
            left.kids.remove(stay);
            if (left.kids.isEmpty()) {
                remove(left);
            }
        }
    }

    // ---- the model

    private static final class Model {
        private final StringBuilder tape = new StringBuilder();
        private final Wood[] woods = new Wood[3];
        private final List<List<Knot>> pasts = new ArrayList<>();
        private Pattern pattern;
        private Script script;
        private int code;
        private int place;
        private String out = "";

        Model() throws Fault {
            script = new Script("");
            for (int i = 0; i < 3; i++) {
                pasts.add(new ArrayList<>());
            }
        }

        private String taken() {
            String text = tape.toString();
            tape.setLength(0);
            return text;
        }

        private void at(int at) {
            if (at < 0 || at > 2) {
                throw new IndexOutOfBoundsException();
            }
        }

        private Knot knot(int at, int node) {
            at(at);
            if (woods[at] == null || node < 0 || node >= woods[at].all.size()) {
                throw new IndexOutOfBoundsException();
            }
            return woods[at].all.get(node);
        }

        private IllegalStateException told(Fault fault) {
            code = fault.code;
            place = fault.place;
            return new IllegalStateException();
        }

        private void untold() {
            code = 0;
            place = 0;
        }

        int feed(long bytes, int n) {
            if (n < 1 || n > 8) {
                throw new IllegalArgumentException();
            }
            if (tape.length() + n > 600) {
                throw new IllegalStateException();
            }
            for (int i = 0; i < n; i++) {
                tape.append((char) (bytes >>> 8 * i & 255));
            }
            return tape.length();
        }

        int plant(int at) {
            String text = taken();
            at(at);
            try {
                woods[at] = new Wood(new TreeReader(text).whole());
            } catch (Fault fault) {
                throw told(fault);
            }
            untold();
            pasts.get(at).clear();
            return nodes(at);
        }

        int pattern() {
            try {
                pattern = new Pattern(taken());
            } catch (Fault fault) {
                throw told(fault);
            }
            untold();
            return pattern.numbered.size();
        }

        int script() {
            try {
                script = new Script(taken());
            } catch (Fault fault) {
                throw told(fault);
            }
            untold();
            return script.orders.size();
        }

        int fault(boolean ofPlace) {
            return ofPlace ? place : code;
        }

        int nodes(int at) {
            at(at);
            return woods[at] == null ? 0 : woods[at].all.size();
        }

        int parent(int at, int node) {
            Knot parent = knot(at, node).parent;
            return parent == null ? -1 : woods[at].all.indexOf(parent);
        }

        int children(int at, int node) {
            return knot(at, node).kids.size();
        }

        int wordOf(int at, int node, boolean last) {
            Knot knot = knot(at, node);
            return woods[at].word(knot, last);
        }

        int withLabel(int at) {
            String text = taken();
            at(at);
            int sum = 0;
            for (int i = 0; i < nodes(at); i++) {
                sum += woods[at].all.get(i).label.equals(text) ? 1 : 0;
            }
            return sum;
        }

        private List<int[]> found(int at) {
            at(at);
            return woods[at] == null || pattern == null ? new ArrayList<>() : new Matcher(woods[at], pattern).found;
        }

        int matches(int at) {
            return found(at).size();
        }

        int matchAt(int at, int match, int number) {
            List<int[]> found = found(at);
            if (match < 0 || match >= found.size() || number < 0 || number >= pattern.numbered.size()) {
                throw new IndexOutOfBoundsException();
            }
            return found.get(match)[number];
        }

        int planAt(int at, int step) {
            at(at);
            if (woods[at] == null || pattern == null) {
                throw new IndexOutOfBoundsException();
            }
            List<Integer> plan = new Matcher(woods[at], pattern).plan();
            if (step < 0 || step >= plan.size()) {
                throw new IndexOutOfBoundsException();
            }
            return plan.get(step);
        }

        private boolean isPassed(char name, int[] match) {
            Spec spec = pattern.names.get(name);
            return name != 0 && (spec == null || spec.number < 0 || match[spec.number] < 0);
        }

        int edit(int at) {
            List<int[]> found = found(at);
            if (found.isEmpty()) {
                return 0;
            }
            Knot before = woods[at].root.copy();
            List<Knot> all = woods[at].all;
            Editor editor = new Editor(woods[at].root);
            int[] match = found.get(0);
            try {
                for (Order order : script.orders) {
                    if (!isPassed(order.x, match) && !isPassed(order.y, match)) {
                        Knot x = order.x == 0 ? null : all.get(match[pattern.names.get(order.x).number]);
                        Knot y = order.y == 0 ? null : all.get(match[pattern.names.get(order.y).number]);
                        editor.perform(order, x, y);
                    }
                }
            } catch (Impossible impossible) {
                woods[at] = new Wood(before);
                throw new IllegalStateException();
            }
            woods[at] = new Wood(editor.root);
            if (editor.done > 0) {
                pasts.get(at).add(before);
            }
            return editor.done;
        }

        int undo(int at) {
            at(at);
            List<Knot> past = pasts.get(at);
            if (past.isEmpty()) {
                throw new IllegalStateException();
            }
            woods[at] = new Wood(past.remove(past.size() - 1));
            return nodes(at);
        }

        int show(int at) {
            at(at);
            out = woods[at] == null ? "" : woods[at].root.text();
            return out.length();
        }

        int label(int at, int node) {
            out = knot(at, node).label;
            return out.length();
        }

        long word(int i) {
            long value = 0;
            for (long k = 0; k < 8; k++) {
                long spot = 8L * i + k;
                value |= spot >= 0 && spot < out.length() ? (long) out.charAt((int) spot) << 8 * k : 0;
            }
            return value;
        }
    }

    // ---- the runs

    private static long seed;
    private static int asked;
    private static int wrong;
    private static int manyMatches;
    private static int editsDone;
    private static int editsRefused;
    private static final int[] codes = new int[5];

    private static int upTo(int bound) {
        seed = seed * 6364136223846793005L + 1442695040888963407L;
        return (int) ((seed >>> 33) % bound);
    }

    private static String any(String... all) {
        return all[upTo(all.length)];
    }

    private static String blank() {
        return upTo(6) > 0 ? "" : any(" ", "  ", "\t", "\n");
    }

    private static String madeLabel() {
        return upTo(8) > 0 ? any("a", "b", "a", "b", "c") : any("ab", "B", "a1", "d", "abcdef");
    }

    private static String madeTree(int nodes) {
        if (nodes == 1) {
            return upTo(4) > 0 ? madeLabel() : "(" + blank() + madeLabel() + blank() + ")";
        }
        StringBuilder text = new StringBuilder("(" + blank() + madeLabel());
        int left = nodes - 1;
        while (left > 0) {
            int take = upTo(3) == 0 ? left : 1 + upTo(left);
            text.append(' ').append(blank()).append(madeTree(take));
            left -= take;
        }
        return text.append(blank()).append(')').toString();
    }

    private static final class PatternMaker {
        private final StringBuilder text = new StringBuilder();
        private int nodes;
        private int numbered;
        private int names;
        private String told = "";
        private final int most = 1 + upTo(upTo(3) == 0 ? 8 : 5);
        private final int mostNumbered = 1 + upTo(4);

        String make() {
            node(false, false);
            relations(false, false, 0);
            return text.toString();
        }

        private void relations(boolean denied, boolean optional, int depth) {
            int count = depth == 0 ? 1 + upTo(3) : upTo(3);
            for (int i = 0; i < count && nodes < most; i++) {
                int mark = upTo(5);
                boolean deny = mark == 0;
                boolean opt = mark == 1 && !denied && !optional;
                boolean mustDeny = numbered >= mostNumbered && !denied && !deny && told.isEmpty();
                deny |= mustDeny;
                opt &= !mustDeny;
                text.append(any("", " ")).append(deny ? "!" : opt ? "?" : "").append(blank());
                text.append(upTo(2) == 0 ? any("<", "<<", "$", "..", ">", ">>")
                    : any("<:", "<" + (1 + upTo(3)), "<-" + (1 + upTo(3)), ">:", ">" + (1 + upTo(3)),
                        ">-" + (1 + upTo(3)), ".", ",", ",,", "$.", "$..", "$,", "$,,"));
                text.append(blank());
                if (upTo(2) == 0) {
                    text.append(any("", " "));
                    node(denied || deny, optional || opt);
                } else {
                    text.append("(").append(blank());
                    node(denied || deny, optional || opt);
                    relations(denied || deny, optional || opt, depth + 1);
                    text.append(")");
                }
            }
        }

        private void node(boolean denied, boolean optional) {
            nodes++;
            boolean full = !denied && numbered >= mostNumbered;
            if (!told.isEmpty() && (full || upTo(5) == 0)) {
                text.append("=").append(blank()).append(told.charAt(upTo(told.length())));
                return;
            }
            numbered += denied ? 0 : 1;
            int kind = upTo(8);
            if (kind < 3 || kind > 5) {
                text.append("*");
            } else if (kind == 3 && !told.isEmpty()) {
                text.append("~").append(told.charAt(upTo(told.length())));
            } else {
                text.append(kind == 4 ? "!" : "").append(madeLabel());
                while (upTo(3) == 0) {
                    text.append(blank()).append("|").append(blank()).append(madeLabel());
                }
            }
            if (upTo(2) == 0) {
                char name = (char) ('x' - names);
                names++;
                text.append(blank()).append("=").append(name);
                told += denied || optional ? "" : name;
            }
        }
    }

    /** A pattern that mostly has a match, with names for a script. */
    private static String easyPattern() {
        return any("*=x < *=w", "*=x << (*=w !< *)", "*=x < (*=w < *=v)", "*=x $ *=w", "a=x .. *=w", "* < *=x ?$ *=w",
            "* < (*=x $.. *=w) ?<< b=v", "*=w < *=x $ *=v", "*=x <: *=w", "a|b=x >> *=w", "*=x ?< a=w ?> b=v");
    }

    private static String madeName() {
        return any("x", "w", "v", "x", "w", "u", "x");
    }

    private static String madeScript() {
        int count = upTo(4) == 0 ? upTo(9) : 1 + upTo(3);
        StringBuilder text = new StringBuilder(blank());
        for (int i = 0; i < count; i++) {
            text.append(i > 0 ? any(";", " ; ") : "");
            String verb = any("rename", "delete", "excise", "wrap", "add", "move", "add", "move", "wrap");
            text.append(verb);
            text.append(verb.equals("add") ? "" : " " + madeName());
            text.append("rename wrap add".contains(verb) ? " " + madeLabel() : "");
            text.append("add move".contains(verb) ? " " + any("first", "last", "before", "after") + " " + madeName() : "");
        }
        return text.append(blank()).toString();
    }

    private static String spoiled(String text) {
        StringBuilder spoilt = new StringBuilder(text);
        for (int i = 0; i <= upTo(3); i++) {
            int spot = upTo(spoilt.length() + 1);
            int way = upTo(4);
            if (way < 2 && spot < spoilt.length()) {
                spoilt.delete(spot, Math.min(spoilt.length(), spot + 1 + upTo(way == 0 ? 1 : 8)));
            } else {
                spoilt.insert(spot, any("(", ")", "<", ">", "-", "!", "?", "=", "=x", "~", "~w", "|", "*", "$", ".", ",",
                    ":", ";", " ", "a", "bcdefg", "0", "7", "\0", "\u00ff", "\r", "delete", "add", " a b c d e f g h i",
                    "a b c d e f g h i j k l m n o ", " < * < * < *", " !< * !< *=w", "=w < ", " < ~w=w ",
                    "; delete x; delete x; delete x; delete x", "rename x abc; delete w; add y first x;"));
            }
        }
        return spoilt.toString();
    }

    private String fault(String text) {
        return calls > 50 && upTo(5) == 0 ? spoiled(text) : text;
    }

    private static String answer(Function<Object, Object> call, Object on) {
        try {
            return String.valueOf(call.apply(on));
        } catch (RuntimeException e) {
            return e.getClass().getSimpleName();
        }
    }

    private Treegrab program;
    private Model model;
    private final StringBuilder story = new StringBuilder();
    private int calls;

    private String ask(String what, Function<Treegrab, Object> ofProgram, Function<Model, Object> ofModel) {
        String due = answer(m -> ofModel.apply((Model) m), model);
        String answered = answer(t -> ofProgram.apply((Treegrab) t), program);
        asked++;
        calls++;
        story.append(what).append(" -> ").append(due).append('\n');
        if (!due.equals(answered)) {
            wrong++;
            System.out.println(story + "BUT ANSWERED " + answered + "\n");
        }
        return due;
    }

    private void feed(String text) {
        story.append("text <").append(text).append(">\n");
        for (int i = 0; i < text.length(); ) {
            int n = Math.min(1 + upTo(8), text.length() - i);
            long bytes = (long) upTo(1 << 30) << 34;
            bytes = n == 8 ? 0 : bytes << 8 * n;
            for (int k = 0; k < n; k++) {
                bytes |= (long) (text.charAt(i + k) & 255) << 8 * k;
            }
            long all = bytes;
            ask("feed", t -> t.feed(all, n), m -> m.feed(all, n));
            i += n;
        }
    }

    private void faults() {
        String code = ask("fault code", t -> t.fault(false), m -> m.fault(false));
        codes[Integer.parseInt(code)]++;
        ask("fault place", t -> t.fault(true), m -> m.fault(true));
    }

    private int place() {
        return upTo(25) == 0 ? upTo(2) * 4 - 1 : upTo(2);
    }

    private void plant() {
        int place = place();
        feed(fault(madeTree(1 + upTo(upTo(6) == 0 ? 21 : 9))));
        ask("plant " + place, t -> t.plant(place), m -> m.plant(place));
        faults();
    }

    private void pattern() {
        feed(fault(new PatternMaker().make()));
        ask("pattern", t -> t.pattern(), m -> m.pattern());
        faults();
    }

    private void script() {
        feed(fault(madeScript()));
        ask("script", t -> t.script(), m -> m.script());
        faults();
    }

    private void look() {
        int place = place();
        int node = upTo(11) - 1;
        ask("nodes " + place, t -> t.nodes(place), m -> m.nodes(place));
        ask("parent " + node, t -> t.parent(place, node), m -> m.parent(place, node));
        ask("children " + node, t -> t.children(place, node), m -> m.children(place, node));
        ask("first word " + node, t -> t.wordOf(place, node, false), m -> m.wordOf(place, node, false));
        ask("last word " + node, t -> t.wordOf(place, node, true), m -> m.wordOf(place, node, true));
        ask("label " + node, t -> t.label(place, node), m -> m.label(place, node));
        ask("word", t -> t.word(0), m -> m.word(0));
        String text = fault(madeLabel());
        feed(text);
        ask("withLabel", t -> t.withLabel(place), m -> m.withLabel(place));
        feed(text);
        ask("withLabelByWalk", t -> t.withLabelByWalk(place), m -> m.withLabel(place));
    }

    private void show(int place) {
        ask("show " + place, t -> t.show(place), m -> m.show(place));
        for (int i = -1; i < 7; i++) {
            int word = i;
            ask("word " + i, t -> t.word(word), m -> m.word(word));
        }
    }

    private void match() {
        int place = place();
        String count = ask("matches " + place, t -> t.matches(place), m -> m.matches(place));
        ask("tried " + place, t -> t.matchesByTrying(place), m -> m.matches(place));
        for (int i = 0; i < 5; i++) {
            int step = i;
            ask("plan " + step, t -> t.planAt(place, step), m -> m.planAt(place, step));
        }
        int all = count.length() > 6 ? 0 : Integer.parseInt(count);
        manyMatches += all > 3 ? 1 : 0;
        for (int i = 0; i < 6; i++) {
            int match = upTo(all + 2) - upTo(2);
            int number = upTo(5) - upTo(2);
            String what = " " + match + " " + number;
            ask("match" + what, t -> t.matchAt(place, match, number), m -> m.matchAt(place, match, number));
            ask("tried" + what, t -> t.matchAtByTrying(place, match, number), m -> m.matchAt(place, match, number));
        }
    }

    private void edit() {
        int place = place();
        String done = ask("edit " + place, t -> t.edit(place), m -> m.edit(place));
        editsDone += done.length() == 1 && !done.equals("0") ? 1 : 0;
        editsRefused += done.startsWith("Illegal") ? 1 : 0;
        show(place);
    }

    private void editMuch() {
        int place = upTo(3);
        feed(madeTree(3 + upTo(18)));
        ask("plant " + place, t -> t.plant(place), m -> m.plant(place));
        feed(easyPattern());
        ask("pattern", t -> t.pattern(), m -> m.pattern());
        for (int i = 0; i < 4; i++) {
            feed(madeScript());
            ask("script", t -> t.script(), m -> m.script());
            String done = ask("edit " + place, t -> t.edit(place), m -> m.edit(place));
            editsDone += done.length() == 1 && !done.equals("0") ? 1 : 0;
            editsRefused += done.startsWith("Illegal") ? 1 : 0;
            show(place);
            if (upTo(3) == 0) {
                ask("undo " + place, t -> t.undo(place), m -> m.undo(place));
                show(place);
            }
        }
        ask("undo " + place, t -> t.undo(place), m -> m.undo(place));
        show(place);
    }

    /** Texts that come near the bounds on labels, nodes and EDITs. */
    private void crowd() {
        StringBuilder tree = new StringBuilder(madeTree(16 + upTo(4)));
        tree.insert(tree.length() - 1, any(" a b", " a (b c)", " (a b (c d))", " (a", " abcdefg", " a b abcdefgh"));
        feed(upTo(3) == 0 ? spoiled(tree.toString()) : tree.toString());
        ask("plant 2", t -> t.plant(2), m -> m.plant(2));
        faults();
        StringBuilder pattern = new StringBuilder("*=x");
        for (int i = 0; i < 9; i++) {
            pattern.append(any(" < =x", " < =x", " !< *", " ?< a", " < b", " !< ~x", " !< (b !< *)", " << *=w", " $ !abcdefg",
                " < =w", " < =v", " ?< ~w", " !< b=v"));
        }
        feed(upTo(3) == 0 ? spoiled(pattern.toString()) : pattern.toString());
        ask("pattern", t -> t.pattern(), m -> m.pattern());
        faults();
        StringBuilder script = new StringBuilder("delete x");
        for (int i = 6 + upTo(2); i < 14; i++) {
            script.append(any("; delete w", "; rename x a", "; add b first x ", ";move x after w", "; wrap x b"));
        }
        feed(upTo(2) == 0 ? spoiled(script.toString()) : script.toString());
        ask("script", t -> t.script(), m -> m.script());
        faults();
    }

    private void undo() {
        int place = place();
        ask("undo " + place, t -> t.undo(place), m -> m.undo(place));
        show(place);
    }

    private OracleTest(long number) throws Fault {
        seed = number * 7919 + 17;
        program = new Treegrab();
        model = new Model();
        plant();
        pattern();
        script();
        for (int step = 0; step < 60 && calls < 330; step++) {
            switch (upTo(11)) {
                case 0:
                    plant();
                    break;
                case 1:
                case 2:
                    pattern();
                    match();
                    break;
                case 3:
                    script();
                    break;
                case 4:
                    look();
                    break;
                case 5:
                    match();
                    break;
                case 6:
                    script();
                    edit();
                    break;
                case 7:
                    edit();
                    match();
                    break;
                case 8:
                    editMuch();
                    break;
                case 9:
                    crowd();
                    break;
                default:
                    if (upTo(2) == 0) {
                        undo();
                    } else {
                        edit();
                    }
                    break;
            }
        }
    }

    public static void main(String[] arguments) throws Fault {
        int runs = arguments.length > 0 ? Integer.parseInt(arguments[0]) : 1500;
        int first = arguments.length > 1 ? Integer.parseInt(arguments[1]) : 0;
        for (int number = first; number < first + runs && wrong < 5; number++) {
            new OracleTest(number);
        }
        System.out.println(asked + " asked, " + wrong + " wrong; faults by code " + Arrays.toString(codes)
            + ", more than 3 matches " + manyMatches + ", edits done " + editsDone + ", refused " + editsRefused);
        if (wrong > 0) {
            System.exit(1);
        }
    }
}
