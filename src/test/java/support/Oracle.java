import java.math.BigInteger;
import java.util.ArrayDeque;
import java.util.ArrayList;
import java.util.Arrays;
import java.util.HashMap;
import java.util.HashSet;
import java.util.List;
import java.util.Map;
import java.util.NoSuchElementException;
import java.util.Set;

/**
 * The document's words once more, in the most naive way there is: turns are made one by one, looks are kept in sets,
 * laws are trees read by recursion. It shares no code and no trick with SwivelBoard, so that both hardly err alike.
 */
final class Oracle {
    static final int NONE = -1;

    // ---- laws as trees

    private interface Node {
        long value(Map<String, Integer> names);
    }

    private static final class Fault extends Exception {
        final int kind;
        final int place;

        Fault(int kind, int place) {
            this.kind = kind;
            this.place = place;
        }
    }

    private record Token(char kind, String text, int place) { }

    private static final class Text {
        final String text;
        final List<Token> tokens = new ArrayList<>();
        int at = 0;
        World world = new World();
        int lines = 0;

        Text(String text) {
            this.text = text;
            int i = 0;
            while (i < text.length()) {
                char c = text.charAt(i);
                int from = i;
                if (c == '\n' || c == ' ') {
                    i++;
                } else if (c >= 'a' && c <= 'z') {
                    while (i < text.length() && text.charAt(i) >= 'a' && text.charAt(i) <= 'z') {
                        i++;
                    }
                    tokens.add(new Token('w', text.substring(from, i), from));
                } else if (c >= '0' && c <= '9') {
                    while (i < text.length() && text.charAt(i) >= '0' && text.charAt(i) <= '9') {
                        i++;
                    }
                    tokens.add(new Token(i - from > 3 ? '!' : 'n', text.substring(from, i), from));
                } else {
                    i++;
                    tokens.add(new Token(";:+-*()[]=<>".indexOf(c) >= 0 ? 's' : '!', text.substring(from, i), from));
                }
            }
            tokens.add(new Token('e', "", text.length()));
        }

        Token peek() {
            return tokens.get(at);
        }

        Fault bad(int kind) {
            return new Fault(peek().kind == '!' ? 1 : kind, peek().place);
        }

        boolean is(String s) {
            return (peek().kind == 'w' || peek().kind == 's') && peek().text.equals(s);
        }

        void need(String s) throws Fault {
            if (!is(s)) {
                throw bad(2);
            }
            at++;
        }

        int number(int least, int most) throws Fault {
            if (peek().kind != 'n') {
                throw bad(2);
            }
            int v = Integer.parseInt(peek().text);
            if (v < least || v > most) {
                throw bad(3);
            }
            at++;
            return v;
        }

        void read() throws Fault {
            need("board");
            int n = number(2, 6);
            world = new World(n);
            need(";");
            lines = 1;
            while (peek().kind != 'e') {
                if (is("member")) {
                    member(n);
                } else if (is("drags")) {
                    at++;
                    need(":");
                    world.drags = truth("drags", 0);
                } else if (is("costs")) {
                    at++;
                    need(":");
                    world.costs = sum("costs", 0);
                } else if (is("goes")) {
                    at++;
                    need(":");
                    world.goes = sum("goes", 0);
                } else {
                    throw bad(2);
                }
                need(";");
                lines++;
            }
        }

        void member(int n) throws Fault {
            at++;
            int m = number(0, n - 1);
            while (peek().kind == 'w') {
                if (is("faces")) {
                    at++;
                    world.aim[m] = number(0, n - 1);
                } else if (is("weight")) {
                    at++;
                    world.weight[m] = number(1, 9);
                } else if (is("stuck")) {
                    at++;
                    world.stuck[m] = true;
                } else {
                    throw bad(2);
                }
            }
        }

        void deeper(int depth) throws Fault {
            if (depth >= 6) {
                throw bad(4);
            }
            at++;
        }

        Node truth(String law, int depth) throws Fault {
            Node left = both(law, depth);
            while (is("or")) {
                at++;
                Node a = left;
                Node b = both(law, depth);
                left = names -> a.value(names) != 0 || b.value(names) != 0 ? 1 : 0;
            }
            return left;
        }

        Node both(String law, int depth) throws Fault {
            Node left = unit(law, depth);
            while (is("and")) {
                at++;
                Node a = left;
                Node b = unit(law, depth);
                left = names -> a.value(names) != 0 && b.value(names) != 0 ? 1 : 0;
            }
            return left;
        }

        Node unit(String law, int depth) throws Fault {
            if (is("not")) {
                deeper(depth);
                Node a = unit(law, depth + 1);
                return names -> a.value(names) != 0 ? 0 : 1;
            }
            if (is("[")) {
                deeper(depth);
                Node a = truth(law, depth + 1);
                need("]");
                return a;
            }
            Node a = sum(law, depth);
            if (!is("=") && !is("<") && !is(">")) {
                throw bad(2);
            }
            String sign = peek().text;
            at++;
            Node b = sum(law, depth);
            return names -> {
                int c = Long.compare(a.value(names), b.value(names));
                return (sign.equals("=") ? c == 0 : sign.equals("<") ? c < 0 : c > 0) ? 1 : 0;
            };
        }

        static long kept(long v) {
            return v > 1_000_000 ? 1_000_000 : v < -1_000_000 ? -1_000_000 : v;
        }

        Node sum(String law, int depth) throws Fault {
            Node left = term(law, depth);
            while (is("+") || is("-")) {
                boolean plus = is("+");
                at++;
                Node a = left;
                Node b = term(law, depth);
                left = names -> kept(plus ? a.value(names) + b.value(names) : a.value(names) - b.value(names));
            }
            return left;
        }

        Node term(String law, int depth) throws Fault {
            Node left = atom(law, depth);
            while (is("*")) {
                at++;
                Node a = left;
                Node b = atom(law, depth);
                left = names -> kept(a.value(names) * b.value(names));
            }
            return left;
        }

        Node atom(String law, int depth) throws Fault {
            if (peek().kind == 'n') {
                long v = Long.parseLong(peek().text);
                at++;
                return names -> v;
            }
            if (is("(")) {
                deeper(depth);
                Node a = sum(law, depth + 1);
                need(")");
                return a;
            }
            List<String> words = new ArrayList<>(List.of("who", "weight"));
            if (law.equals("drags")) {
                words.addAll(List.of("other", "apart"));
            }
            if (law.equals("goes")) {
                words.addAll(List.of("aim", "votes"));
            }
            if (peek().kind == 'w' && words.contains(peek().text)) {
                String name = peek().text;
                at++;
                return names -> names.get(name);
            }
            throw bad(2);
        }
    }

    // ---- members and laws

    private static final class World {
        int n;
        int[] aim;
        int[] weight;
        boolean[] stuck;
        Node drags;
        Node costs;
        Node goes;

        World() {
            this(2);
        }

        World(int n) {
            this.n = n;
            aim = new int[n];
            weight = new int[n];
            Arrays.fill(weight, 1);
            stuck = new boolean[n];
        }

        World twin() {
            World w = new World(n);
            w.aim = aim.clone();
            w.weight = weight.clone();
            w.stuck = stuck.clone();
            w.drags = drags;
            w.costs = costs;
            w.goes = goes;
            return w;
        }

        int faces(int m) {
            return aim[m] == 0 ? NONE : (m + aim[m]) % n;
        }

        int votes(int m) {
            int sum = 0;
            for (int i = 0; i < n; i++) {
                if (faces(i) == m) {
                    sum += weight[i];
                }
            }
            return sum;
        }

        int chair() {
            int best = NONE;
            for (int m = 0; m < n; m++) {
                if (votes(m) > 0 && (best == NONE || votes(m) > votes(best))) {
                    best = m;
                }
            }
            return best;
        }

        int price(int m) {
            if (costs == null) {
                return 1;
            }
            long v = costs.value(Map.of("who", m, "weight", weight[m]));
            return (int) (v < 1 ? 1 : v > 99 ? 99 : v);
        }

        boolean holds(int m, int other) {
            if (drags == null) {
                return false;
            }
            int there = Math.floorMod(other - m, n);
            int back = Math.floorMod(m - other, n);
            return drags.value(Map.of("who", m, "weight", weight[m], "other", other,
                "apart", Math.min(there, back))) != 0;
        }

        int dragBits(int m) {
            int bits = 0;
            for (int i = 0; i < n && !stuck[m]; i++) {
                if (i == m || !stuck[i] && holds(m, i)) {
                    bits |= 1 << i;
                }
            }
            return bits;
        }

        void swivel(int m, int notches) {
            int bits = dragBits(m);
            for (int k = 0; k < notches; k++) {
                for (int i = 0; i < n; i++) {
                    if ((bits >> i & 1) != 0) {
                        aim[i] = aim[i] == n - 1 ? 0 : aim[i] + 1;
                    }
                }
            }
        }

        int pace(int m) {
            if (stuck[m] || goes == null) {
                return 0;
            }
            return (int) Math.floorMod(goes.value(Map.of("who", m, "weight", weight[m], "aim", aim[m],
                "votes", votes(m))), (long) n);
        }

        void minute() {
            int[] then = new int[n];
            for (int m = 0; m < n; m++) {
                then[m] = (aim[m] + pace(m)) % n;
            }
            aim = then;
        }

        int knees() {
            int twos = 0;
            for (int i = 0; i < n; i++) {
                for (int j = i + 1; j < n; j++) {
                    if (faces(i) == j && faces(j) == i) {
                        twos++;
                    }
                }
            }
            return twos;
        }

        int stuckBits() {
            int bits = 0;
            for (int m = 0; m < n; m++) {
                bits |= stuck[m] ? 1 << m : 0;
            }
            return bits;
        }

        List<Integer> look() {
            List<Integer> l = new ArrayList<>();
            for (int a : aim) {
                l.add(a);
            }
            return l;
        }
    }

    private interface Wish {
        boolean fulfilled(World w);
    }

    /** All turns as rows of notches, in the order of rows. */
    private static List<int[]> allTurns(World w) {
        List<int[]> rows = new ArrayList<>();
        rows.add(new int[0]);
        for (int m = 0; m < w.n; m++) {
            List<int[]> more = new ArrayList<>();
            for (int[] r : rows) {
                for (int k = 0; k < (w.stuck[m] ? 1 : w.n); k++) {
                    int[] s = Arrays.copyOf(r, m + 1);
                    s[m] = k;
                    more.add(s);
                }
            }
            rows = more;
        }
        return rows;
    }

    private static World behind(World w, int[] notches) {
        World t = w.twin();
        for (int m = t.n - 1; m >= 0; m--) {
            if (notches[m] > 0) {
                t.swivel(m, notches[m]);
            }
        }
        return t;
    }

    private static int costOf(World w, int[] notches) {
        int sum = 0;
        for (int m = 0; m < w.n; m++) {
            sum += notches[m] * w.price(m);
        }
        return sum;
    }

    private static int[] best(World w, Wish wish) {
        int[] best = null;
        for (int[] t : allTurns(w)) {
            if (wish.fulfilled(behind(w, t)) && (best == null || costOf(w, t) < costOf(w, best))) {
                best = t;
            }
        }
        return best;
    }

    private static int pathAnswer(World w, int[] t, int what) {
        if (t == null) {
            return NONE;
        }
        if (what == 0) {
            return costOf(w, t);
        }
        return what - 10 < w.n ? t[what - 10] : NONE;
    }

    private static boolean pathWhat(int what) {
        return what == 0 || what >= 10 && what <= 15;
    }

    // ---- the object

    private World w = new World();
    private int lines = 0;
    private ArrayDeque<World> past = new ArrayDeque<>();
    private StringBuilder tape = new StringBuilder();
    private int fault = 0;
    private int faultPlace = NONE;
    private final long[][] trays = new long[4][];
    private final int[] sorts = new int[4];
    private final World[] imageWorld = new World[3];
    private final int[] imageLines = new int[3];
    private final List<ArrayDeque<World>> imagePast = new ArrayList<>(Arrays.asList(null, null, null));

    private static ArrayDeque<World> twins(ArrayDeque<World> d) {
        ArrayDeque<World> t = new ArrayDeque<>();
        for (World x : d) {
            t.add(x.twin());
        }
        return t;
    }

    int feed(int a, int b, int c, int d, int e) {
        if (tape.length() > 880) {
            return NONE;
        }
        for (int v : new int[] {a, b, c, d, e}) {
            for (int i = 3; i >= 0; i--) {
                tape.append((char) (v >> 8 * i & 255));
            }
        }
        return tape.length();
    }

    int board(int n) {
        if (n < 0 || n > tape.length()) {
            throw new IllegalArgumentException();
        }
        Text text = new Text(tape.substring(0, n));
        tape = new StringBuilder();
        try {
            text.read();
        } catch (Fault f) {
            fault = f.kind;
            faultPlace = f.place;
            return -10 - fault;
        }
        fault = 0;
        faultPlace = NONE;
        w = text.world;
        lines = text.lines;
        past.clear();
        return lines;
    }

    int fault(int what) {
        return what == 0 ? fault : what == 1 ? faultPlace : NONE;
    }

    private void member(int m) {
        if (m < 0 || m >= w.n) {
            throw new NoSuchElementException();
        }
    }

    private static void argument(boolean fine) {
        if (!fine) {
            throw new IllegalArgumentException();
        }
    }

    int member(int m, int what) {
        member(m);
        argument(what >= 0 && what <= 5);
        return new int[] {w.aim[m], w.faces(m), w.weight[m], w.votes(m), w.stuck[m] ? 1 : 0, w.price(m)}[what];
    }

    int chair() {
        return w.chair();
    }

    int drags(int m) {
        member(m);
        return w.dragBits(m);
    }

    int goes(int m) {
        member(m);
        return w.pace(m);
    }

    private void keep() {
        past.addLast(w.twin());
        if (past.size() > 10) {
            past.removeFirst();
        }
    }

    private int whyTurn(World x, int m, int notches) {
        if (m < 0 || m >= x.n || notches < 1 || notches > x.n - 1) {
            return 1;
        }
        return x.stuck[m] ? 2 : 0;
    }

    int turn(int m, int notches) {
        int why = whyTurn(w, m, notches);
        if (why != 0) {
            return -why;
        }
        keep();
        w.swivel(m, notches);
        return notches * w.price(m);
    }

    int weigh(int m, int weight) {
        if (m < 0 || m >= w.n || weight < 1 || weight > 9) {
            return -1;
        }
        keep();
        int before = w.weight[m];
        w.weight[m] = weight;
        return before;
    }

    int stick(int m) {
        if (m < 0 || m >= w.n) {
            return -1;
        }
        keep();
        w.stuck[m] = !w.stuck[m];
        return w.stuck[m] ? 1 : 0;
    }

    int minutes(int n) {
        argument(n >= 1 && n <= 99);
        keep();
        int changes = 0;
        for (int i = 0; i < n; i++) {
            int ahead = w.chair();
            w.minute();
            changes += ahead != w.chair() ? 1 : 0;
        }
        return changes;
    }

    int undo(int n) {
        argument(n >= 1 && n <= 10 && n <= past.size());
        for (int i = 0; i < n; i++) {
            w = past.removeLast();
        }
        return past.size();
    }

    private long[] row(int tray) {
        if (tray < 0 || tray > 3) {
            throw new NoSuchElementException();
        }
        if (trays[tray] == null) {
            throw new IllegalStateException();
        }
        return trays[tray];
    }

    private int told(long v) {
        if (v == NONE) {
            return minutes(1) * 0;
        }
        if (v >= 0 && v < 100) {
            return Math.min(0, turn((int) v / 10, (int) v % 10));
        }
        if (v >= 100 && v < 200) {
            return Math.min(0, weigh((int) (v - 100) / 10, (int) v % 10));
        }
        if (v >= 200 && v < 300) {
            return Math.min(0, stick((int) v - 200));
        }
        return -1;
    }

    int judge(int tray, int what) {
        long[] r = row(tray);
        argument(what >= 0 && what <= 3);
        World saved = w.twin();
        ArrayDeque<World> savedPast = twins(past);
        int place = NONE;
        int why = 0;
        for (int i = 0; i < r.length && why == 0; i++) {
            why = -told(r[i]);
            place = why != 0 ? i : NONE;
        }
        int answer = new int[] {place, why, w.chair(), w.stuckBits()}[what];
        w = saved;
        past = savedPast;
        return answer;
    }

    int perform(int tray) {
        int done = 0;
        for (long v : row(tray)) {
            if (told(v) < 0) {
                break;
            }
            done++;
        }
        return done;
    }

    private int x;

    private int draw() {
        x = x * 1103515245 + 12345;
        return x >>> 16;
    }

    int session(int seed, int times) {
        argument(times >= 1 && times <= 30);
        x = seed;
        int done = 0;
        for (int i = 0; i < times; i++) {
            int sort = draw() % 5;
            int r;
            if (sort == 0) {
                r = minutes(1);
            } else if (sort < 3) {
                int m = draw() % 6;
                r = turn(m, 1 + draw() % 5);
            } else if (sort == 3) {
                int m = draw() % 6;
                r = weigh(m, 1 + draw() % 9);
            } else {
                r = stick(draw() % 6);
            }
            done += r >= 0 ? 1 : 0;
        }
        return done;
    }

    private long[] look(int tray) {
        long[] r = row(tray);
        argument(r.length == w.n);
        for (long v : r) {
            argument(v >= -1 && v < w.n);
        }
        return r;
    }

    private static boolean like(World x, long[] look) {
        for (int m = 0; m < x.n; m++) {
            if (look[m] != NONE && look[m] != x.aim[m]) {
                return false;
            }
        }
        return true;
    }

    int cheapest(int tray, int what) {
        long[] r = look(tray);
        argument(pathWhat(what));
        return pathAnswer(w, best(w, x -> like(x, r)), what);
    }

    int ways(int tray) {
        long[] r = look(tray);
        int sum = 0;
        for (int[] t : allTurns(w)) {
            sum += like(behind(w, t), r) ? 1 : 0;
        }
        return sum;
    }

    int throne(int m, int what) {
        member(m);
        argument(pathWhat(what));
        return pathAnswer(w, best(w, x -> x.chair() == m), what);
    }

    private static Map<List<Integer>, Integer> reachable(World w) {
        Map<List<Integer>, Integer> found = new HashMap<>();
        ArrayDeque<World> open = new ArrayDeque<>();
        found.put(w.look(), w.chair());
        open.add(w.twin());
        while (!open.isEmpty()) {
            World x = open.poll();
            for (int m = 0; m < x.n; m++) {
                World y = x.twin();
                if (!y.stuck[m]) {
                    y.swivel(m, 1);
                }
                if (found.put(y.look(), y.chair()) == null) {
                    open.add(y);
                }
            }
        }
        return found;
    }

    int looks() {
        return reachable(w).size();
    }

    int idle() {
        int sum = 0;
        for (int[] t : allTurns(w)) {
            sum += behind(w, t).look().equals(w.look()) ? 1 : 0;
        }
        return sum;
    }

    int power(int m) {
        member(m);
        int sum = 0;
        for (int chair : reachable(w).values()) {
            sum += chair == m ? 1 : 0;
        }
        return sum;
    }

    int strongest() {
        int best = 0;
        for (int m = 1; m < w.n; m++) {
            if (power(m) > power(best)) {
                best = m;
            }
        }
        return best;
    }

    int motion(int m) {
        member(m);
        if (w.chair() == m) {
            return NONE;
        }
        for (int i = 0; i < w.n; i++) {
            for (int k = 1; k < w.n && !w.stuck[i]; k++) {
                World y = w.twin();
                y.swivel(i, k);
                if (y.chair() == m) {
                    return 10 * i + k;
                }
            }
        }
        return NONE;
    }

    int helps(int m, int what) {
        member(m);
        argument(what == 0 || what == 1);
        Set<Integer> sets = new HashSet<>();
        for (int[] t : allTurns(w)) {
            if (behind(w, t).chair() == m) {
                int bits = 0;
                for (int i = 0; i < w.n; i++) {
                    bits |= t[i] != 0 ? 1 << i : 0;
                }
                sets.add(bits);
            }
        }
        for (int many = 0; many <= w.n; many++) {
            for (int bits = 0; bits < 64; bits++) {
                if (Integer.bitCount(bits) == many && sets.contains(bits)) {
                    return what == 0 ? many : bits;
                }
            }
        }
        return NONE;
    }

    int vetoes(int m) {
        member(m);
        if (!reachable(w).containsValue(m)) {
            return 0;
        }
        int bits = 0;
        for (int v = 0; v < w.n; v++) {
            if (!w.stuck[v]) {
                World y = w.twin();
                y.stuck[v] = true;
                bits |= reachable(y).containsValue(m) ? 0 : 1 << v;
            }
        }
        return bits;
    }

    int knees(int what) {
        argument(what == 1 || pathWhat(what));
        int most = 0;
        for (int[] t : allTurns(w)) {
            most = Math.max(most, behind(w, t).knees());
        }
        if (what == 0) {
            return most;
        }
        int want = most;
        return pathAnswer(w, best(w, x -> x.knees() == want), what == 1 ? 0 : what);
    }

    int settles(int what) {
        argument(what == 0 || what == 1);
        Map<List<Integer>, Integer> when = new HashMap<>();
        World y = w.twin();
        for (int i = 0; ; i++) {
            Integer before = when.put(y.look(), i);
            if (before != null) {
                return what == 0 ? before : i - before;
            }
            y.minute();
        }
    }

    private World in(int n) {
        World y = w.twin();
        int tail = settles(0);
        int round = settles(1);
        int steps = n;
        while (steps >= tail + round) {
            steps -= round;
        }
        for (int i = 0; i < steps; i++) {
            y.minute();
        }
        return y;
    }

    int chairIn(int n) {
        argument(n >= 0 && n <= 99_999);
        return in(n).chair();
    }

    int aimIn(int m, int n) {
        member(m);
        argument(n >= 0 && n <= 99_999);
        return in(n).aim[m];
    }

    int reign(int m, int n) {
        member(m);
        argument(n >= 0 && n <= 9_999);
        World y = w.twin();
        int sum = 0;
        for (int i = 0; i <= n; i++) {
            sum += y.chair() == m ? 1 : 0;
            y.minute();
        }
        return sum;
    }

    int first(int m) {
        member(m);
        World y = w.twin();
        int end = settles(0) + settles(1);
        for (int i = 0; i <= end; i++) {
            if (y.chair() == m) {
                return i;
            }
            y.minute();
        }
        return NONE;
    }

    private List<Integer> sights(long[] look, List<World> worlds) {
        List<Integer> told = new ArrayList<>();
        for (int m = 0; m < w.n; m++) {
            for (int k = 1; k < w.n && !w.stuck[m]; k++) {
                World y = w.twin();
                y.swivel(m, k);
                if (like(y, look)) {
                    told.add(10 * m + k);
                    worlds.add(y);
                }
            }
        }
        return told;
    }

    int seen(int tray) {
        return sights(look(tray), new ArrayList<>()).size();
    }

    int seenAt(int tray, int k) {
        long[] r = look(tray);
        argument(k >= 0);
        List<Integer> l = sights(r, new ArrayList<>());
        return k < l.size() ? l.get(k) : NONE;
    }

    int ask(int tray) {
        long[] r = look(tray);
        List<World> worlds = new ArrayList<>();
        sights(r, worlds);
        if (worlds.isEmpty()) {
            return NONE;
        }
        int best = NONE;
        int least = Integer.MAX_VALUE;
        for (int m = 0; m < w.n; m++) {
            if (r[m] != NONE) {
                continue;
            }
            Map<Integer, Integer> many = new HashMap<>();
            int most = 0;
            for (World y : worlds) {
                most = Math.max(most, many.merge(y.aim[m], 1, Integer::sum));
            }
            if (most < least) {
                least = most;
                best = m;
            }
        }
        return best;
    }

    private static long hits(World w, int n, int m) {
        int free = w.n - Integer.bitCount(w.stuckBits());
        if (n == 0 || free == 0) {
            return w.chair() == m ? 1 : 0;
        }
        long sum = 0;
        for (int i = 0; i < w.n; i++) {
            if (!w.stuck[i]) {
                World y = w.twin();
                y.swivel(i, 1);
                sum += hits(y, n - 1, m);
            }
        }
        return sum;
    }

    int chance(int m, int n, int what) {
        member(m);
        argument(n >= 0 && n <= 6);
        argument(what == 0 || what == 1);
        int free = w.n - Integer.bitCount(w.stuckBits());
        BigInteger below = free == 0 ? BigInteger.ONE : BigInteger.valueOf(free).pow(n);
        BigInteger above = BigInteger.valueOf(hits(w, n, m));
        BigInteger common = above.gcd(below);
        return (what == 0 ? above : below).divide(common).intValue();
    }

    int likeliest(int n) {
        argument(n >= 0 && n <= 6);
        int best = NONE;
        long most = 0;
        for (int m = 0; m < w.n; m++) {
            long h = hits(w, n, m);
            if (h > most) {
                most = h;
                best = m;
            }
        }
        return best;
    }

    void tray(int tray, int sort, int many) {
        if (tray < 0 || tray > 3) {
            throw new NoSuchElementException();
        }
        argument(sort >= 0 && sort <= 3 && many >= 0 && many <= 30);
        trays[tray] = new long[many];
        sorts[tray] = sort;
    }

    long write(int tray, int place, long v) {
        long[] r = row(tray);
        if (place < 0 || place >= r.length) {
            throw new IndexOutOfBoundsException();
        }
        int drop = 64 - (8 << sorts[tray]);
        r[place] = v << drop >> drop;
        return r[place];
    }

    int copy(int tray, int n) {
        long[] r = row(tray);
        argument(n >= 0 && n <= 99_999);
        World y = in(n);
        int many = 0;
        for (int i = 0; i < r.length && i < y.n; i++) {
            r[i] = y.aim[i];
            many++;
        }
        return many;
    }

    void image(int i) {
        if (i < 0 || i > 2) {
            throw new NoSuchElementException();
        }
        imageWorld[i] = w.twin();
        imageLines[i] = lines;
        imagePast.set(i, twins(past));
    }

    void restore(int i) {
        if (i < 0 || i > 2) {
            throw new NoSuchElementException();
        }
        if (imageWorld[i] == null) {
            throw new IllegalStateException();
        }
        w = imageWorld[i].twin();
        lines = imageLines[i];
        past = twins(imagePast.get(i));
    }

    int count(int what) {
        int out = 0;
        int weights = 0;
        for (int m = 0; m < w.n; m++) {
            out |= w.aim[m] == 0 ? 1 << m : 0;
            weights += w.weight[m];
        }
        int[] all = {lines, w.n, w.stuckBits(), out, w.knees(), weights, past.size(), tape.length()};
        return what >= 0 && what < all.length ? all[what] : NONE;
    }
}
