import java.util.ArrayList;
import java.util.List;

/** Every call that throws, by each of its reasons and by several at once: it throws what is told first, and changes nothing. */
public final class EdgeThrowsTest {
    private static final int MIN = Integer.MIN_VALUE;
    private static final int MAX = Integer.MAX_VALUE;

    private interface On {
        void call(SwivelBoard x);
    }

    private record Row(int promise, String call, Class<?> kind, On on) { }

    private static final List<Row> ROWS = new ArrayList<>();

    public static void main(String[] args) {
        noMember();
        noTray();
        missing();
        otherArguments();
        notALook();
        places();
        images();
        for (Row r : ROWS) {
            Edge.of(r.promise, "a call that throws changes nothing", () -> changesNothing(r));
        }
        Edge.of(1, "no other call ever throws", EdgeThrowsTest::quiet);
        Edge.of(1, "an object is used for 512 calls", EdgeThrowsTest::manyCalls);
        Due.end();
    }

    private static void row(int promise, String call, Class<?> kind, On on) {
        ROWS.add(new Row(promise, call, kind, on));
    }

    /** Three members, laws, a fault, bytes on the tape, deeds; trays 0 a look, 1 deeds, 2 empty, 3 missing; image 0. */
    private static SwivelBoard rich() {
        SwivelBoard x = Due.of("board 3;member 0 faces 2 weight 4;member 2 faces 1 stuck;"
            + "drags:other>who;costs:7-who;goes:aim+votes+1;");
        Due.load(x, "board 3;member 3;");
        x.feed(1, 2, 3, 4, 5);
        Due.row(x, 0, 0, -1, 2, -1);
        Due.row(x, 1, 1, 1, 119, -1, 202, 21, 77);
        x.tray(2, 2, 0);
        x.turn(0, 1);
        x.image(0);
        x.weigh(1, 3);
        x.turn(1, 2);
        return x;
    }

    private static String all(SwivelBoard x) {
        StringBuilder s = new StringBuilder(Due.view(x));
        for (int what = 0; what < 4; what++) {
            s.append(' ').append(x.judge(1, what)).append(' ').append(x.judge(2, what));
        }
        for (int m = 0; m < 3; m++) {
            s.append(' ').append(x.cheapest(0, 10 + m)).append(' ').append(x.power(m)).append(' ').append(x.first(m));
        }
        s.append(' ').append(x.cheapest(0, 0)).append(' ').append(x.seen(0)).append(' ').append(x.ask(0));
        s.append(' ').append(x.settles(0)).append(' ').append(x.settles(1));
        s.append(' ').append(thrown(() -> x.ways(2))).append(' ').append(thrown(() -> x.judge(3, 0)));
        s.append(' ').append(thrown(() -> x.restore(1))).append(' ').append(thrown(() -> x.restore(2)));
        return s.toString();
    }

    private static Class<?> thrown(Due.Deed d) {
        try {
            d.done();
        } catch (RuntimeException e) {
            return e.getClass();
        }
        return null;
    }

    private static void changesNothing(Row r) {
        SwivelBoard x = rich();
        SwivelBoard twin = rich();
        String before = all(x);
        Edge.failsDeed(r.call, r.kind, () -> r.on.call(x));
        Edge.is("all is as before " + r.call, all(x).equals(before) ? 1 : 0, 1);
        x.undo(2);
        twin.undo(2);
        Edge.is("what is undone is as before " + r.call, all(x).equals(all(twin)) ? 1 : 0, 1);
        x.restore(0);
        twin.restore(0);
        Edge.is("its image is as before " + r.call, all(x).equals(all(twin)) ? 1 : 0, 1);
    }

    private static void noMember() {
        int[] wrong = {-1, 3, 6, 32, MIN, MAX};
        for (int m : wrong) {
            row(5, "member(" + m + ", 0)", Due.NO_ELEMENT, x -> x.member(m, 0));
            row(5, "member(" + m + ", 9)", Due.NO_ELEMENT, x -> x.member(m, 9));
            row(7, "drags(" + m + ")", Due.NO_ELEMENT, x -> x.drags(m));
            row(8, "goes(" + m + ")", Due.NO_ELEMENT, x -> x.goes(m));
            row(19, "throne(" + m + ", 0)", Due.NO_ELEMENT, x -> x.throne(m, 0));
            row(19, "throne(" + m + ", 9)", Due.NO_ELEMENT, x -> x.throne(m, 9));
            row(22, "power(" + m + ")", Due.NO_ELEMENT, x -> x.power(m));
            row(24, "motion(" + m + ")", Due.NO_ELEMENT, x -> x.motion(m));
            row(25, "helps(" + m + ", 0)", Due.NO_ELEMENT, x -> x.helps(m, 0));
            row(25, "helps(" + m + ", 9)", Due.NO_ELEMENT, x -> x.helps(m, 9));
            row(26, "vetoes(" + m + ")", Due.NO_ELEMENT, x -> x.vetoes(m));
            row(30, "aimIn(" + m + ", 0)", Due.NO_ELEMENT, x -> x.aimIn(m, 0));
            row(30, "aimIn(" + m + ", -1)", Due.NO_ELEMENT, x -> x.aimIn(m, -1));
            row(31, "reign(" + m + ", 0)", Due.NO_ELEMENT, x -> x.reign(m, 0));
            row(31, "reign(" + m + ", -1)", Due.NO_ELEMENT, x -> x.reign(m, -1));
            row(32, "first(" + m + ")", Due.NO_ELEMENT, x -> x.first(m));
            row(36, "chance(" + m + ", 0, 0)", Due.NO_ELEMENT, x -> x.chance(m, 0, 0));
            row(36, "chance(" + m + ", 7, 2)", Due.NO_ELEMENT, x -> x.chance(m, 7, 2));
        }
    }

    private static void noTray() {
        int[] wrong = {-1, 4, MIN, MAX};
        for (int t : wrong) {
            row(14, "judge(" + t + ", 0)", Due.NO_ELEMENT, x -> x.judge(t, 0));
            row(14, "judge(" + t + ", 9)", Due.NO_ELEMENT, x -> x.judge(t, 9));
            row(15, "perform(" + t + ")", Due.NO_ELEMENT, x -> x.perform(t));
            row(17, "cheapest(" + t + ", 0)", Due.NO_ELEMENT, x -> x.cheapest(t, 0));
            row(17, "cheapest(" + t + ", 9)", Due.NO_ELEMENT, x -> x.cheapest(t, 9));
            row(18, "ways(" + t + ")", Due.NO_ELEMENT, x -> x.ways(t));
            row(33, "seen(" + t + ")", Due.NO_ELEMENT, x -> x.seen(t));
            row(34, "seenAt(" + t + ", 0)", Due.NO_ELEMENT, x -> x.seenAt(t, 0));
            row(34, "seenAt(" + t + ", -1)", Due.NO_ELEMENT, x -> x.seenAt(t, -1));
            row(35, "ask(" + t + ")", Due.NO_ELEMENT, x -> x.ask(t));
            row(38, "tray(" + t + ", 0, 3)", Due.NO_ELEMENT, x -> x.tray(t, 0, 3));
            row(38, "tray(" + t + ", 4, 31)", Due.NO_ELEMENT, x -> x.tray(t, 4, 31));
            row(39, "write(" + t + ", 0, 1)", Due.NO_ELEMENT, x -> x.write(t, 0, 1));
            row(39, "write(" + t + ", -1, 1)", Due.NO_ELEMENT, x -> x.write(t, -1, 1));
            row(40, "copy(" + t + ", 0)", Due.NO_ELEMENT, x -> x.copy(t, 0));
            row(40, "copy(" + t + ", -1)", Due.NO_ELEMENT, x -> x.copy(t, -1));
        }
    }

    private static void missing() {
        row(14, "judge(3, 0)", Due.STATE, x -> x.judge(3, 0));
        row(14, "judge(3, 9)", Due.STATE, x -> x.judge(3, 9));
        row(15, "perform(3)", Due.STATE, x -> x.perform(3));
        row(17, "cheapest(3, 0)", Due.STATE, x -> x.cheapest(3, 0));
        row(17, "cheapest(3, 9)", Due.STATE, x -> x.cheapest(3, 9));
        row(18, "ways(3)", Due.STATE, x -> x.ways(3));
        row(33, "seen(3)", Due.STATE, x -> x.seen(3));
        row(34, "seenAt(3, 0)", Due.STATE, x -> x.seenAt(3, 0));
        row(34, "seenAt(3, -1)", Due.STATE, x -> x.seenAt(3, -1));
        row(35, "ask(3)", Due.STATE, x -> x.ask(3));
        row(39, "write(3, 0, 1)", Due.STATE, x -> x.write(3, 0, 1));
        row(39, "write(3, -1, 1)", Due.STATE, x -> x.write(3, -1, 1));
        row(40, "copy(3, 0)", Due.STATE, x -> x.copy(3, 0));
        row(40, "copy(3, -1)", Due.STATE, x -> x.copy(3, -1));
    }

    private static void otherArguments() {
        int[] never = {-1, MIN, MAX};
        for (int v : never) {
            row(3, "board(" + v + ")", Due.ARGUMENT, x -> x.board(v));
            row(5, "member(0, " + v + ")", Due.ARGUMENT, x -> x.member(0, v));
            row(12, "minutes(" + v + ")", Due.ARGUMENT, x -> x.minutes(v));
            row(13, "undo(" + v + ")", Due.ARGUMENT, x -> x.undo(v));
            row(14, "judge(1, " + v + ")", Due.ARGUMENT, x -> x.judge(1, v));
            row(16, "session(7, " + v + ")", Due.ARGUMENT, x -> x.session(7, v));
            row(17, "cheapest(0, " + v + ")", Due.ARGUMENT, x -> x.cheapest(0, v));
            row(19, "throne(0, " + v + ")", Due.ARGUMENT, x -> x.throne(0, v));
            row(25, "helps(0, " + v + ")", Due.ARGUMENT, x -> x.helps(0, v));
            row(27, "knees(" + v + ")", Due.ARGUMENT, x -> x.knees(v));
            row(28, "settles(" + v + ")", Due.ARGUMENT, x -> x.settles(v));
            row(29, "chairIn(" + v + ")", Due.ARGUMENT, x -> x.chairIn(v));
            row(30, "aimIn(0, " + v + ")", Due.ARGUMENT, x -> x.aimIn(0, v));
            row(31, "reign(0, " + v + ")", Due.ARGUMENT, x -> x.reign(0, v));
            row(36, "chance(0, " + v + ", 0)", Due.ARGUMENT, x -> x.chance(0, v, 0));
            row(36, "chance(0, 0, " + v + ")", Due.ARGUMENT, x -> x.chance(0, 0, v));
            row(37, "likeliest(" + v + ")", Due.ARGUMENT, x -> x.likeliest(v));
            row(38, "tray(1, " + v + ", 1)", Due.ARGUMENT, x -> x.tray(1, v, 1));
            row(38, "tray(1, 1, " + v + ")", Due.ARGUMENT, x -> x.tray(1, 1, v));
            row(40, "copy(1, " + v + ")", Due.ARGUMENT, x -> x.copy(1, v));
        }
        row(3, "board(21)", Due.ARGUMENT, x -> x.board(21));
        row(5, "member(0, 6)", Due.ARGUMENT, x -> x.member(0, 6));
        row(12, "minutes(0)", Due.ARGUMENT, x -> x.minutes(0));
        row(12, "minutes(100)", Due.ARGUMENT, x -> x.minutes(100));
        row(13, "undo(0)", Due.ARGUMENT, x -> x.undo(0));
        row(13, "undo(4)", Due.ARGUMENT, x -> x.undo(4));
        row(14, "judge(1, 4)", Due.ARGUMENT, x -> x.judge(1, 4));
        row(16, "session(7, 0)", Due.ARGUMENT, x -> x.session(7, 0));
        row(16, "session(7, 31)", Due.ARGUMENT, x -> x.session(7, 31));
        row(17, "cheapest(0, 16)", Due.ARGUMENT, x -> x.cheapest(0, 16));
        row(19, "throne(0, 16)", Due.ARGUMENT, x -> x.throne(0, 16));
        row(25, "helps(0, 2)", Due.ARGUMENT, x -> x.helps(0, 2));
        row(27, "knees(2)", Due.ARGUMENT, x -> x.knees(2));
        row(27, "knees(16)", Due.ARGUMENT, x -> x.knees(16));
        row(28, "settles(2)", Due.ARGUMENT, x -> x.settles(2));
        row(29, "chairIn(100000)", Due.ARGUMENT, x -> x.chairIn(100_000));
        row(30, "aimIn(0, 100000)", Due.ARGUMENT, x -> x.aimIn(0, 100_000));
        row(31, "reign(0, 10000)", Due.ARGUMENT, x -> x.reign(0, 10_000));
        row(36, "chance(0, 7, 0)", Due.ARGUMENT, x -> x.chance(0, 7, 0));
        row(36, "chance(0, 0, 2)", Due.ARGUMENT, x -> x.chance(0, 0, 2));
        row(37, "likeliest(7)", Due.ARGUMENT, x -> x.likeliest(7));
        row(38, "tray(1, 4, 1)", Due.ARGUMENT, x -> x.tray(1, 4, 1));
        row(38, "tray(1, 1, 31)", Due.ARGUMENT, x -> x.tray(1, 1, 31));
        row(40, "copy(1, 100000)", Due.ARGUMENT, x -> x.copy(1, 100_000));
    }

    private static void notALook() {
        for (int t = 1; t <= 2; t++) {
            int tray = t;
            row(17, "cheapest(" + t + ", 0)", Due.ARGUMENT, x -> x.cheapest(tray, 0));
            row(18, "ways(" + t + ")", Due.ARGUMENT, x -> x.ways(tray));
            row(33, "seen(" + t + ")", Due.ARGUMENT, x -> x.seen(tray));
            row(34, "seenAt(" + t + ", 0)", Due.ARGUMENT, x -> x.seenAt(tray, 0));
            row(35, "ask(" + t + ")", Due.ARGUMENT, x -> x.ask(tray));
        }
        row(34, "seenAt(0, -1)", Due.ARGUMENT, x -> x.seenAt(0, -1));
    }

    private static void places() {
        int[] wrong = {-1, 3, 30, MIN, MAX};
        for (int p : wrong) {
            row(39, "write(0, " + p + ", 1)", Due.INDEX, x -> x.write(0, p, 1));
        }
        row(39, "write(2, 0, 1)", Due.INDEX, x -> x.write(2, 0, 1));
    }

    private static void images() {
        int[] wrong = {-1, 3, 32, MIN, MAX};
        for (int i : wrong) {
            row(41, "image(" + i + ")", Due.NO_ELEMENT, x -> x.image(i));
            row(42, "restore(" + i + ")", Due.NO_ELEMENT, x -> x.restore(i));
        }
        row(42, "restore(1)", Due.STATE, x -> x.restore(1));
        row(42, "restore(2)", Due.STATE, x -> x.restore(2));
    }

    private static void quiet() {
        int[] any = {MIN, MIN + 1, -1000, -2, -1, 0, 1, 2, 3, 6, 7, 31, 32, 33, 1000, MAX - 1, MAX};
        SwivelBoard x = rich();
        for (int a : any) {
            Edge.is("fault", thrown(() -> x.fault(a)) == null ? 0 : 1, 0);
            Edge.is("count", thrown(() -> x.count(a)) == null ? 0 : 1, 0);
            Edge.is("stick", thrown(() -> x.stick(a)) == null ? 0 : 1, 0);
            for (int b : any) {
                SwivelBoard y = rich();
                Edge.is("turn", thrown(() -> y.turn(a, b)) == null ? 0 : 1, 0);
                Edge.is("weigh", thrown(() -> y.weigh(a, b)) == null ? 0 : 1, 0);
                Edge.is("feed", thrown(() -> y.feed(a, b, a, b, a)) == null ? 0 : 1, 0);
                Edge.is("session", thrown(() -> y.session(a * 31 + b, 30)) == null ? 0 : 1, 0);
            }
        }
        Due.Deed[] free = {() -> x.chair(), () -> x.looks(), () -> x.idle(), () -> x.strongest()};
        for (Due.Deed f : free) {
            Edge.is("a call without arguments", thrown(f) == null ? 0 : 1, 0);
        }
    }

    /** The stamps by which answers are kept must hold out, and the last call answers as the first. */
    private static void manyCalls() {
        SwivelBoard x = new SwivelBoard();
        for (int i = 0; i < 169; i++) {
            x.turn(i % 2, 1);
            x.session(i, 30);
            x.undo(1);
        }
        Edge.is("the 508th", x.count(6), 9);
        int sum = x.power(0) + x.power(1);
        Edge.is("the last ones", sum >= 0 && sum <= 4 ? 1 : 0, 1);
    }
}
