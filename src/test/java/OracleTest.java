import java.util.ArrayList;
import java.util.List;
import java.util.NoSuchElementException;
import java.util.Random;

/** Runs of calls by chance on SwivelBoard and on the naive Oracle: each answer, each throw and all that can be seen must agree. */
public final class OracleTest {
    private static final int RUNS = 400;
    private static final int CALLS = 60;
    private static int wrong = 0;
    private static final List<String> log = new ArrayList<>();

    private SwivelBoard x;
    private Oracle o;
    private final Random chance;
    private final TextMaker texts;
    private int members = 2;

    private OracleTest(long seed) {
        chance = new Random(seed);
        texts = new TextMaker(chance);
    }

    public static void main(String[] args) {
        int runs = args.length > 0 ? Integer.parseInt(args[0]) : RUNS;
        long from = args.length > 1 ? Long.parseLong(args[1]) : 1;
        for (long seed = from; seed < from + runs && wrong == 0; seed++) {
            log.clear();
            new OracleTest(seed).run();
            if (wrong > 0) {
                System.out.println("seed " + seed);
                for (String s : log) {
                    System.out.println("  " + s);
                }
            }
        }
        if (wrong > 0) {
            System.exit(1);
        }
    }

    private interface Call {
        long answer();
    }

    private static String outcome(Call c) {
        try {
            return Long.toString(c.answer());
        } catch (NoSuchElementException e) {
            return e.getClass() == NoSuchElementException.class ? "NoSuchElementException" : e.toString();
        } catch (IllegalStateException e) {
            return e.getClass() == IllegalStateException.class ? "IllegalStateException" : e.toString();
        } catch (IllegalArgumentException e) {
            return e.getClass() == IllegalArgumentException.class ? "IllegalArgumentException" : e.toString();
        } catch (IndexOutOfBoundsException e) {
            return e.getClass() == IndexOutOfBoundsException.class ? "IndexOutOfBoundsException" : e.toString();
        }
    }

    private void same(String name, Call mine, Call due) {
        String a = outcome(mine);
        String b = outcome(due);
        log.add(name + " -> " + a);
        if (!a.equals(b)) {
            wrong++;
            log.add("  DUE " + b);
        }
    }

    private void sameAll() {
        for (int i = -1; i <= 8; i++) {
            int what = i;
            quiet("count(" + what + ")", () -> x.count(what), () -> o.count(what));
        }
        quiet("chair()", () -> x.chair(), () -> o.chair());
        for (int i = 0; i < 6; i++) {
            for (int j = 0; j < 6; j++) {
                int m = i;
                int what = j;
                quiet("member(" + m + ", " + what + ")", () -> x.member(m, what), () -> o.member(m, what));
            }
        }
        for (int i = 0; i < 3; i++) {
            int what = i;
            quiet("fault(" + what + ")", () -> x.fault(what), () -> o.fault(what));
        }
    }

    private void quiet(String name, Call mine, Call due) {
        String a = outcome(mine);
        String b = outcome(due);
        if (!a.equals(b)) {
            wrong++;
            log.add(name + " then answers " + a + ", DUE " + b);
        }
    }

    private void run() {
        x = new SwivelBoard();
        o = new Oracle();
        sameAll();
        if (chance.nextInt(8) != 0) {
            load();
        }
        for (int i = 0; i < CALLS && wrong == 0; i++) {
            call();
            sameAll();
        }
    }

    private int size() {
        int s = chance.nextInt(40);
        return s == 0 ? 6 : s < 3 ? 5 : s < 12 ? 4 : s < 28 ? 3 : 2;
    }

    private void load() {
        String t = texts.make(size(), chance.nextInt(3) == 0);
        int n = t.length();
        log.add("text " + t.replace("\n", "\\n"));
        for (int i = 0; i < n; i += 20) {
            int[] v = new int[5];
            for (int j = 0; j < 20; j++) {
                int c = i + j < n ? t.charAt(i + j) : chance.nextInt(256);
                v[j / 4] = v[j / 4] << 8 | c;
            }
            same("feed", () -> x.feed(v[0], v[1], v[2], v[3], v[4]), () -> o.feed(v[0], v[1], v[2], v[3], v[4]));
        }
        // What was fed before may still be there, and stands ahead of this text then.
        int all = x.count(7);
        int many = chance.nextInt(15) == 0 ? chance.nextInt(all + 3) - 1 : Math.min(all, n);
        same("board(" + many + ")", () -> x.board(many), () -> o.board(many));
        members = x.count(1);
    }

    private int m() {
        return chance.nextInt(12) == 0 ? chance.nextInt(9) - 1 : chance.nextInt(members);
    }

    private int tray() {
        return chance.nextInt(20) == 0 ? chance.nextInt(6) - 1 : chance.nextInt(2);
    }

    private int what(int most) {
        return chance.nextInt(10) == 0 ? chance.nextInt(20) - 2 : chance.nextInt(most + 1);
    }

    private int path() {
        return chance.nextInt(10) == 0 ? chance.nextInt(20) - 2 : chance.nextInt(3) == 0 ? 0 : 10 + chance.nextInt(6);
    }

    private int far() {
        int s = chance.nextInt(10);
        return s == 0 ? 99_990 + chance.nextInt(20) : s == 1 ? chance.nextInt(4) - 2 : s < 4 ? chance.nextInt(100_000)
            : chance.nextInt(40);
    }

    private void lookTray() {
        int t = chance.nextInt(2);
        int sort = chance.nextInt(4);
        int many = chance.nextInt(12) == 0 ? chance.nextInt(8) : members;
        x.tray(t, sort, many);
        o.tray(t, sort, many);
        log.add("tray(" + t + ", " + sort + ", " + many + ")");
        int any = chance.nextInt(4);
        for (int i = 0; i < many; i++) {
            int v = chance.nextInt(30) == 0 ? chance.nextInt(9) - 2
                : chance.nextInt(4) < any ? -1 : chance.nextInt(members);
            int place = i;
            same("write(" + t + ", " + place + ", " + v + ")", () -> x.write(t, place, v), () -> o.write(t, place, v));
        }
    }

    private void deedTray() {
        int t = chance.nextInt(2);
        int sort = chance.nextInt(4);
        int many = chance.nextInt(14);
        x.tray(t, sort, many);
        o.tray(t, sort, many);
        log.add("tray(" + t + ", " + sort + ", " + many + ")");
        for (int i = 0; i < many; i++) {
            int s = chance.nextInt(20);
            long v = s == 0 ? chance.nextInt(310) - 4 : s < 4 ? -1
                : s < 12 ? 10 * chance.nextInt(members) + 1 + chance.nextInt(members - 1)
                : s < 16 ? 100 + 10 * chance.nextInt(members) + 1 + chance.nextInt(9) : 200 + chance.nextInt(members);
            int place = i;
            same("write(" + t + ", " + place + ", " + v + ")", () -> x.write(t, place, v), () -> o.write(t, place, v));
        }
    }

    private void call() {
        int c = chance.nextInt(52);
        if (c < 14) {
            change(c);
        } else if (c < 18) {
            if (chance.nextBoolean()) {
                lookTray();
            } else {
                deedTray();
            }
        } else if (c < 36) {
            heavy(c);
        } else {
            light(c);
        }
        members = x.count(1);
    }

    private void change(int c) {
        int m = m();
        int k = chance.nextInt(8) == 0 ? chance.nextInt(9) - 1 : 1 + chance.nextInt(members - 1);
        int w = chance.nextInt(8) == 0 ? chance.nextInt(14) - 2 : 1 + chance.nextInt(9);
        int n = chance.nextInt(6) == 0 ? chance.nextInt(110) - 5 : 1 + chance.nextInt(5);
        int t = tray();
        int i = chance.nextInt(12) == 0 ? chance.nextInt(5) - 1 : chance.nextInt(3);
        int seed = chance.nextInt();
        int times = chance.nextInt(10) == 0 ? chance.nextInt(40) - 5 : 1 + chance.nextInt(8);
        switch (c) {
            case 0: case 1: case 2:
                same("turn(" + m + ", " + k + ")", () -> x.turn(m, k), () -> o.turn(m, k));
                break;
            case 3:
                same("weigh(" + m + ", " + w + ")", () -> x.weigh(m, w), () -> o.weigh(m, w));
                break;
            case 4:
                same("stick(" + m + ")", () -> x.stick(m), () -> o.stick(m));
                break;
            case 5:
                same("minutes(" + n + ")", () -> x.minutes(n), () -> o.minutes(n));
                break;
            case 6: case 7:
                int many = chance.nextInt(4) == 0 ? chance.nextInt(13) - 1 : 1 + chance.nextInt(3);
                same("undo(" + many + ")", () -> x.undo(many), () -> o.undo(many));
                break;
            case 8:
                same("perform(" + t + ")", () -> x.perform(t), () -> o.perform(t));
                break;
            case 9:
                same("session(" + seed + ", " + times + ")", () -> x.session(seed, times), () -> o.session(seed, times));
                break;
            case 10:
                same("image(" + i + ")", () -> { x.image(i); return 0; }, () -> { o.image(i); return 0; });
                break;
            case 11:
                same("restore(" + i + ")", () -> { x.restore(i); return 0; }, () -> { o.restore(i); return 0; });
                break;
            case 12:
                int far = far();
                same("copy(" + t + ", " + far + ")", () -> x.copy(t, far), () -> o.copy(t, far));
                break;
            default:
                if (chance.nextInt(3) == 0) {
                    load();
                } else {
                    odd(t);
                }
        }
    }

    private void odd(int t) {
        int place = chance.nextInt(34) - 2;
        long v = chance.nextLong();
        int sort = chance.nextInt(6) - 1;
        int many = chance.nextInt(36) - 2;
        int a = chance.nextInt();
        switch (chance.nextInt(3)) {
            case 0:
                same("write(" + t + ", " + place + ", " + v + ")", () -> x.write(t, place, v), () -> o.write(t, place, v));
                break;
            case 1:
                same("tray(" + t + ", " + sort + ", " + many + ")", () -> { x.tray(t, sort, many); return 0; },
                    () -> { o.tray(t, sort, many); return 0; });
                break;
            default:
                same("feed", () -> x.feed(a, a, a, a, a), () -> o.feed(a, a, a, a, a));
        }
    }

    private void heavy(int c) {
        if (members > 4 && chance.nextInt(members == 6 ? 12 : 3) != 0) {
            return;
        }
        int m = m();
        int t = tray();
        int p = path();
        int q = what(1);
        switch (c) {
            case 18: case 19:
                same("cheapest(" + t + ", " + p + ")", () -> x.cheapest(t, p), () -> o.cheapest(t, p));
                break;
            case 20: case 21:
                same("ways(" + t + ")", () -> x.ways(t), () -> o.ways(t));
                break;
            case 22: case 23: case 24:
                same("throne(" + m + ", " + p + ")", () -> x.throne(m, p), () -> o.throne(m, p));
                break;
            case 25:
                same("looks()", () -> x.looks(), () -> o.looks());
                break;
            case 26:
                same("idle()", () -> x.idle(), () -> o.idle());
                break;
            case 27:
                same("power(" + m + ")", () -> x.power(m), () -> o.power(m));
                break;
            case 28:
                same("strongest()", () -> x.strongest(), () -> o.strongest());
                break;
            case 29: case 30:
                same("helps(" + m + ", " + q + ")", () -> x.helps(m, q), () -> o.helps(m, q));
                break;
            case 31: case 32:
                same("vetoes(" + m + ")", () -> x.vetoes(m), () -> o.vetoes(m));
                break;
            case 33: case 34:
                int k = chance.nextInt(4) == 0 ? 1 : p;
                same("knees(" + k + ")", () -> x.knees(k), () -> o.knees(k));
                break;
            default:
                int n = members > 4 ? chance.nextInt(5) : chance.nextInt(9) - 1;
                same("chance(" + m + ", " + n + ", " + q + ")", () -> x.chance(m, n, q), () -> o.chance(m, n, q));
                same("likeliest(" + n + ")", () -> x.likeliest(n), () -> o.likeliest(n));
        }
    }

    private void light(int c) {
        int m = m();
        int t = tray();
        int q = what(1);
        int far = far();
        switch (c) {
            case 36:
                same("motion(" + m + ")", () -> x.motion(m), () -> o.motion(m));
                break;
            case 37: case 38:
                same("settles(" + q + ")", () -> x.settles(q), () -> o.settles(q));
                break;
            case 39:
                same("chairIn(" + far + ")", () -> x.chairIn(far), () -> o.chairIn(far));
                break;
            case 40:
                same("aimIn(" + m + ", " + far + ")", () -> x.aimIn(m, far), () -> o.aimIn(m, far));
                break;
            case 41: case 42:
                int n = chance.nextInt(5) == 0 ? 9_995 + chance.nextInt(10) : chance.nextInt(50) - 1;
                same("reign(" + m + ", " + n + ")", () -> x.reign(m, n), () -> o.reign(m, n));
                break;
            case 43:
                same("first(" + m + ")", () -> x.first(m), () -> o.first(m));
                break;
            case 44:
                same("seen(" + t + ")", () -> x.seen(t), () -> o.seen(t));
                break;
            case 45: case 46:
                int k = chance.nextInt(6) - 1;
                same("seenAt(" + t + ", " + k + ")", () -> x.seenAt(t, k), () -> o.seenAt(t, k));
                break;
            case 47: case 48:
                same("ask(" + t + ")", () -> x.ask(t), () -> o.ask(t));
                break;
            case 49:
                int j = what(3);
                same("judge(" + t + ", " + j + ")", () -> x.judge(t, j), () -> o.judge(t, j));
                break;
            case 50:
                same("drags(" + m + ")", () -> x.drags(m), () -> o.drags(m));
                break;
            default:
                same("goes(" + m + ")", () -> x.goes(m), () -> o.goes(m));
        }
    }
}
