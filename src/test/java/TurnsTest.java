/** Promises 17 to 27: what can be had by turns. Answers are reckoned by hand. */
public final class TurnsTest {
    /** Aims 2 3 0 1, weights 1 2 1 5, the last is stuck; each drags the next; 0 has the chair by 7 votes. */
    private static final String FOUR = "board 4;member 0 faces 2;member 1 faces 3 weight 2;"
        + "member 3 faces 1 weight 5 stuck;drags:other=who+1 or other+3=who;costs:weight*3;goes:aim+1;";
    /** All look out; notches cost 4, 3, 2. */
    private static final String THREE = "board 3;member 1 weight 3;costs:4-who;";
    private static final String TOGETHER = "board 3;member 0 faces 1;drags:1=1;";

    public static void main(String[] args) {
        cheapest();
        tellsNoLook();
        ways();
        throne();
        looksAndIdle();
        power();
        motion();
        helps();
        vetoes();
        knees();
        nothingIsKeptTooLong();
        Due.end();
    }

    private static void path(int promise, SwivelBoard x, int tray, int cost, int... notches) {
        Due.is(promise, "cheapest(" + tray + ", 0)", x.cheapest(tray, 0), cost);
        for (int m = 0; m < 6; m++) {
            int due = cost >= 0 && m < notches.length ? notches[m] : -1;
            Due.is(promise, "cheapest(" + tray + ", " + (10 + m) + ")", x.cheapest(tray, 10 + m), due);
        }
    }

    private static void cheapest() {
        SwivelBoard x = Due.of(FOUR);
        Due.row(x, 0, 0, 2, 3, 1, 1);
        path(17, x, 0, 3, 0, 0, 1, 0);
        Due.row(x, 0, 1, -1, 0, -1, -1);
        path(17, x, 0, 3, 1, 0, 0, 0);
        Due.row(x, 0, 2, 1, 3, 0, -1);
        // 0 by 3 drags 1, which wants 1 more then, and that drags 2, which wants 3 more.
        path(17, x, 0, 24, 3, 1, 3, 0);
        Due.row(x, 0, 3, -1, -1, -1, 2);
        path(17, x, 0, -1);
        Due.row(x, 0, 3, -1, -1, -1, -1);
        path(17, x, 0, 0, 0, 0, 0, 0);
        Due.row(x, 0, 0, 2, 3, 0, 1);
        path(17, x, 0, 0, 0, 0, 0, 0);
        Due.row(x, 0, 0, 2, 3, 3, 1);
        path(17, x, 0, 9, 0, 0, 3, 0);
        SwivelBoard y = Due.of("board 3;drags:other=2;");
        Due.row(y, 0, 0, -1, -1, 1);
        path(17, y, 0, 1, 0, 0, 1);
        Due.fails(17, "cheapest(0, 1)", Due.ARGUMENT, () -> y.cheapest(0, 1));
        Due.fails(17, "cheapest(0, 9)", Due.ARGUMENT, () -> y.cheapest(0, 9));
        Due.fails(17, "cheapest(0, 16)", Due.ARGUMENT, () -> y.cheapest(0, 16));
        Due.fails(17, "cheapest(0, -1)", Due.ARGUMENT, () -> y.cheapest(0, -1));
    }

    private static void tellsNoLook() {
        SwivelBoard x = Due.of(FOUR);
        long[][] wrong = {{}, {0, 0, 0}, {0, 0, 0, 0, 0}, {0, 0, 0, 4}, {-2, 0, 0, 0}, {0, 1L << 32, 0, 0}};
        for (long[] w : wrong) {
            Due.row(x, 0, 3, w);
            Due.fails(17, "cheapest", Due.ARGUMENT, () -> x.cheapest(0, 0));
            Due.fails(18, "ways", Due.ARGUMENT, () -> x.ways(0));
            Due.fails(33, "seen", Due.ARGUMENT, () -> x.seen(0));
            Due.fails(34, "seenAt", Due.ARGUMENT, () -> x.seenAt(0, 0));
            Due.fails(35, "ask", Due.ARGUMENT, () -> x.ask(0));
        }
        int[] none = {-1, 4, Integer.MAX_VALUE, Integer.MIN_VALUE};
        for (int t : none) {
            Due.fails(17, "cheapest", Due.NO_ELEMENT, () -> x.cheapest(t, 99));
            Due.fails(18, "ways", Due.NO_ELEMENT, () -> x.ways(t));
            Due.fails(33, "seen", Due.NO_ELEMENT, () -> x.seen(t));
            Due.fails(34, "seenAt", Due.NO_ELEMENT, () -> x.seenAt(t, -1));
            Due.fails(35, "ask", Due.NO_ELEMENT, () -> x.ask(t));
        }
        Due.fails(17, "cheapest", Due.STATE, () -> x.cheapest(2, 99));
        Due.fails(18, "ways", Due.STATE, () -> x.ways(2));
        Due.fails(33, "seen", Due.STATE, () -> x.seen(2));
        Due.fails(34, "seenAt", Due.STATE, () -> x.seenAt(2, -1));
        Due.fails(35, "ask", Due.STATE, () -> x.ask(2));
    }

    private static void ways() {
        SwivelBoard x = Due.of(FOUR);
        Due.row(x, 0, 0, -1, 0, -1, -1);
        Due.is(18, "16 by 0 and 1, 2 as it likes", x.ways(0), 16);
        Due.row(x, 0, 0, 0, 0, 0, 1);
        Due.is(18, "one", x.ways(0), 1);
        Due.row(x, 0, 0, -1, -1, -1, 0);
        Due.is(18, "none", x.ways(0), 0);
        Due.row(x, 0, 0, -1, -1, -1, -1);
        Due.is(18, "all", x.ways(0), 64);
        SwivelBoard y = Due.of(TOGETHER);
        Due.row(y, 0, 0, 2, 1, 1);
        Due.is(18, "nine", y.ways(0), 9);
    }

    private static void thrones(SwivelBoard x, int m, int cost, int... notches) {
        Due.is(19, "throne(" + m + ", 0)", x.throne(m, 0), cost);
        for (int i = 0; i < 6; i++) {
            int due = cost >= 0 && i < notches.length ? notches[i] : -1;
            Due.is(19, "throne(" + m + ", " + (10 + i) + ")", x.throne(m, 10 + i), due);
        }
    }

    private static void throne() {
        SwivelBoard x = Due.of(THREE);
        thrones(x, 0, 2, 0, 0, 1);
        thrones(x, 1, 4, 0, 0, 2);
        thrones(x, 2, 3, 0, 1, 0);
        SwivelBoard y = Due.of(FOUR);
        thrones(y, 0, 0, 0, 0, 0, 0);
        thrones(y, 1, -1);
        thrones(y, 2, -1);
        thrones(y, 3, -1);
        Due.fails(19, "throne(4, 99)", Due.NO_ELEMENT, () -> y.throne(4, 99));
        Due.fails(19, "throne(-1, 0)", Due.NO_ELEMENT, () -> y.throne(-1, 0));
        Due.fails(19, "throne(0, 1)", Due.ARGUMENT, () -> y.throne(0, 1));
        Due.fails(19, "throne(0, 16)", Due.ARGUMENT, () -> y.throne(0, 16));
    }

    private static void looksAndIdle() {
        Due.is(20, "looks()", Due.of(FOUR).looks(), 64);
        Due.is(21, "idle()", Due.of(FOUR).idle(), 1);
        Due.is(20, "all together", Due.of(TOGETHER).looks(), 3);
        Due.is(21, "all together", Due.of(TOGETHER).idle(), 9);
        Due.is(20, "six by themselves", Due.of("board 6;").looks(), 46656);
        Due.is(21, "six by themselves", Due.of("board 6;").idle(), 1);
        // Of two that drag each other both turn alike: an even number of notches together is idle.
        Due.is(20, "two together", Due.of("board 2;drags:1=1;").looks(), 2);
        Due.is(21, "two together", Due.of("board 2;drags:1=1;").idle(), 2);
        Due.is(20, "all stuck", Due.of("board 2;member 0 stuck;member 1 stuck;").looks(), 1);
        Due.is(21, "all stuck", Due.of("board 2;member 0 stuck;member 1 stuck;").idle(), 1);
    }

    private static void power() {
        SwivelBoard x = Due.of(THREE);
        int[] due = {12, 4, 10};
        for (int m = 0; m < 3; m++) {
            Due.is(22, "power(" + m + ")", x.power(m), due[m]);
        }
        Due.is(23, "strongest()", x.strongest(), 0);
        Due.fails(22, "power(3)", Due.NO_ELEMENT, () -> x.power(3));
        Due.fails(22, "power(-1)", Due.NO_ELEMENT, () -> x.power(-1));
        // Looks 1 0 0, 2 1 1, 0 2 2: each look once, though nine turns lead to it.
        SwivelBoard y = Due.of(TOGETHER);
        Due.is(22, "power(0)", y.power(0), 1);
        Due.is(22, "power(1)", y.power(1), 1);
        Due.is(22, "power(2)", y.power(2), 1);
        SwivelBoard z = Due.of("board 3;member 0 weight 2;member 1 stuck;member 2 stuck;");
        Due.is(22, "power(2)", z.power(2), 1);
        Due.is(23, "the first of like ones", z.strongest(), 1);
        Due.is(23, "nobody has any: the first", Due.of("board 2;member 0 stuck;member 1 stuck;").strongest(), 0);
        Due.is(23, "the last", Due.of("board 3;member 0 faces 2 weight 9 stuck;").strongest(), 2);
    }

    private static void motion() {
        SwivelBoard x = Due.of(THREE);
        Due.is(24, "motion(0)", x.motion(0), 12);
        Due.is(24, "motion(1)", x.motion(1), 1);
        Due.is(24, "motion(2)", x.motion(2), 2);
        Due.is(24, "it has", Due.of(FOUR).motion(0), -1);
        Due.is(24, "none", Due.of(FOUR).motion(2), -1);
        // By dragging: who turns 0 by 1 turns 1 to 0 as well, with more weight.
        SwivelBoard y = Due.of("board 3;member 1 faces 1 weight 2;drags:other=1;");
        Due.is(24, "motion(0)", y.motion(0), 1);
        Due.fails(24, "motion(3)", Due.NO_ELEMENT, () -> y.motion(3));
        Due.fails(24, "motion(-1)", Due.NO_ELEMENT, () -> y.motion(-1));
    }

    private static void helps() {
        SwivelBoard x = Due.of(THREE);
        Due.is(25, "one", x.helps(0, 0), 1);
        Due.is(25, "1 rather than 2", x.helps(0, 1), 2);
        Due.is(25, "0 rather than 2", x.helps(1, 1), 1);
        SwivelBoard y = Due.of(FOUR);
        Due.is(25, "it has", y.helps(0, 0), 0);
        Due.is(25, "it has", y.helps(0, 1), 0);
        Due.is(25, "none", y.helps(1, 0), -1);
        Due.is(25, "none", y.helps(1, 1), -1);
        // 3 faces 1 with 3: to outvote it for 0 the others must all turn.
        SwivelBoard z = Due.of("board 5;member 3 faces 3 weight 3 stuck;member 0 stuck;");
        Due.is(25, "1, 2 and 4 face 0", z.helps(0, 0), 3);
        Due.is(25, "1, 2 and 4 face 0", z.helps(0, 1), 22);
        // Ten against nine: 0 and 3, 1 and 2, 1 and 3, 2 and 3 have so many.
        SwivelBoard w = Due.of("board 6;member 1 weight 5;member 2 weight 5;member 3 weight 9;member 4 stuck;"
            + "member 5 faces 1 weight 9 stuck;");
        Due.is(25, "two", w.helps(4, 0), 2);
        Due.is(25, "the least set as bits", w.helps(4, 1), 6);
        Due.fails(25, "helps(5, 9)", Due.NO_ELEMENT, () -> z.helps(5, 9));
        Due.fails(25, "helps(0, 2)", Due.ARGUMENT, () -> z.helps(0, 2));
        Due.fails(25, "helps(0, -1)", Due.ARGUMENT, () -> z.helps(0, -1));
    }

    private static void vetoes() {
        Due.is(26, "others do", Due.of(THREE).vetoes(0), 0);
        SwivelBoard x = Due.of("board 3;member 1 stuck;");
        Due.is(26, "2 alone", x.vetoes(0), 4);
        Due.is(26, "0 or 2", x.vetoes(1), 0);
        Due.is(26, "0 alone", x.vetoes(2), 1);
        Due.is(26, "none anyhow", Due.of(FOUR).vetoes(1), 0);
        Due.is(26, "it has", Due.of(FOUR).vetoes(0), 0);
        SwivelBoard z = Due.of("board 5;member 3 faces 3 weight 3 stuck;member 0 stuck;");
        Due.is(26, "each of three", z.vetoes(0), 22);
        // Only 0's turn can turn 1 away from 2 in step with 0; who is stuck isn't dragged either.
        SwivelBoard y = Due.of("board 3;member 1 faces 1 weight 9;member 2 stuck;drags:who=0 and other=1;");
        Due.is(26, "1 keeps 0 from it", y.vetoes(0), 2);
        Due.fails(26, "vetoes(3)", Due.NO_ELEMENT, () -> y.vetoes(3));
        Due.fails(26, "vetoes(-1)", Due.NO_ELEMENT, () -> y.vetoes(-1));
    }

    private static void knees() {
        SwivelBoard x = Due.of(THREE);
        int[] due = {0, 1, 2, -1, -1, -1};
        Due.is(27, "knees(0)", x.knees(0), 1);
        Due.is(27, "knees(1)", x.knees(1), 7);
        for (int m = 0; m < 6; m++) {
            Due.is(27, "knees(" + (10 + m) + ")", x.knees(10 + m), due[m]);
        }
        Due.fails(27, "knees(2)", Due.ARGUMENT, () -> x.knees(2));
        Due.fails(27, "knees(9)", Due.ARGUMENT, () -> x.knees(9));
        Due.fails(27, "knees(16)", Due.ARGUMENT, () -> x.knees(16));
        Due.fails(27, "knees(-1)", Due.ARGUMENT, () -> x.knees(-1));
        // Whoever they are, two that face each other have six notches together.
        SwivelBoard y = Due.of("board 6;");
        Due.is(27, "three twos", y.knees(0), 3);
        Due.is(27, "six notches each", y.knees(1), 18);
        for (int m = 0; m < 6; m++) {
            Due.is(27, "the first of like ones", y.knees(10 + m), m % 2 == 0 ? 1 : 5);
        }
        SwivelBoard z = Due.of("board 2;member 0 stuck;");
        Due.is(27, "none at all", z.knees(0), 0);
        Due.is(27, "for nothing", z.knees(1), 0);
        Due.is(27, "for nothing", z.knees(11), 0);
        Due.is(27, "now", Due.of("board 4;member 0 faces 2;member 2 faces 2;member 1 stuck;").knees(1), 0);
    }

    /** What one call found out must not answer another one behind a change. */
    private static void nothingIsKeptTooLong() {
        SwivelBoard x = Due.of(THREE);
        Due.row(x, 0, 0, 1, -1, -1);
        Due.is(17, "ahead", x.cheapest(0, 0), 4);
        Due.is(22, "ahead", x.power(0), 12);
        Due.is(27, "ahead", x.knees(1), 7);
        Due.is(19, "ahead", x.throne(2, 0), 3);
        x.turn(0, 1);
        Due.is(17, "behind a turn", x.cheapest(0, 0), 0);
        Due.is(27, "behind a turn", x.knees(1), 6);
        x.undo(1);
        Due.is(17, "undone", x.cheapest(0, 0), 4);
        Due.is(27, "undone", x.knees(1), 7);
        x.weigh(1, 1);
        Due.is(22, "behind a weight", x.power(1), 8);
        x.image(0);
        x.stick(1);
        Due.is(20, "behind sticking", x.looks(), 9);
        Due.is(19, "behind sticking", x.throne(2, 0), 8);
        x.restore(0);
        Due.is(20, "restored", x.looks(), 27);
        Due.is(19, "restored", x.throne(2, 0), 3);
        Due.load(x, "board 2;");
        Due.is(20, "another board", x.looks(), 4);
        Due.is(27, "another board", x.knees(1), 2);
    }
}
