/** Promises 9 to 16: deeds, undone, judged, by draws. Answers are reckoned by hand. */
public final class DeedTest {
    /** Aims 2 3 0 1, weights 1 2 1 5, the last is stuck; each drags the next; 0 has the chair by 7 votes. */
    private static final String FOUR = "board 4;member 0 faces 2;member 1 faces 3 weight 2;"
        + "member 3 faces 1 weight 5 stuck;drags:other=who+1 or other+3=who;costs:weight*3;goes:aim+1;";

    public static void main(String[] args) {
        turn();
        weigh();
        stick();
        minutes();
        undo();
        judge();
        judgeReasons();
        perform();
        session();
        Due.end();
    }

    private static void aims(int promise, SwivelBoard x, int... due) {
        for (int m = 0; m < due.length; m++) {
            Due.is(promise, "member(" + m + ", 0)", x.member(m, 0), due[m]);
        }
    }

    private static void turn() {
        SwivelBoard x = Due.of(FOUR);
        Due.is(9, "turn(0, 3)", x.turn(0, 3), 9);
        aims(9, x, 1, 2, 0, 1);
        Due.is(9, "turn(1, 1)", x.turn(1, 1), 6);
        aims(9, x, 1, 3, 1, 1);
        Due.is(9, "turn(2, 3), the next is stuck", x.turn(2, 3), 9);
        aims(9, x, 1, 3, 0, 1);
        String before = Due.view(x);
        Due.is(9, "turn(3, 1), stuck", x.turn(3, 1), -2);
        Due.is(9, "turn(3, 0), stuck too", x.turn(3, 0), -1);
        Due.is(9, "turn(3, 4), stuck too", x.turn(3, 4), -1);
        Due.is(9, "turn(0, 0)", x.turn(0, 0), -1);
        Due.is(9, "turn(0, 4)", x.turn(0, 4), -1);
        Due.is(9, "turn(0, -1)", x.turn(0, -1), -1);
        Due.is(9, "turn(4, 1)", x.turn(4, 1), -1);
        Due.is(9, "turn(-1, 1)", x.turn(-1, 1), -1);
        Due.is(9, "turn(MIN, MAX)", x.turn(Integer.MIN_VALUE, Integer.MAX_VALUE), -1);
        Due.unchanged(9, "turns that can't be", before, x);
        Due.is(9, "deeds", x.count(6), 3);
    }

    private static void weigh() {
        SwivelBoard x = Due.of(FOUR);
        Due.is(10, "weigh(1, 9)", x.weigh(1, 9), 2);
        Due.is(10, "weigh(1, 9) again", x.weigh(1, 9), 9);
        Due.is(10, "it is a deed all the same", x.count(6), 2);
        Due.is(10, "its cost", x.member(1, 5), 27);
        Due.is(10, "votes", x.member(0, 3), 14);
        Due.is(10, "weights together", x.count(5), 16);
        Due.is(10, "who is stuck has weight too", x.weigh(3, 1), 5);
        String before = Due.view(x);
        Due.is(10, "weigh(1, 10)", x.weigh(1, 10), -1);
        Due.is(10, "weigh(1, 0)", x.weigh(1, 0), -1);
        Due.is(10, "weigh(4, 1)", x.weigh(4, 1), -1);
        Due.is(10, "weigh(-1, 1)", x.weigh(-1, 1), -1);
        Due.unchanged(10, "what can't be", before, x);
    }

    private static void stick() {
        SwivelBoard x = Due.of(FOUR);
        Due.is(11, "stick(1)", x.stick(1), 1);
        Due.is(11, "drags(0)", x.drags(0), 1);
        Due.is(11, "drags(1)", x.drags(1), 0);
        Due.is(11, "turn(1, 1)", x.turn(1, 1), -2);
        Due.is(11, "stick(3)", x.stick(3), 0);
        Due.is(11, "drags(3), round the ring", x.drags(3), 9);
        Due.is(11, "stick(1)", x.stick(1), 0);
        Due.is(11, "drags(0)", x.drags(0), 3);
        String before = Due.view(x);
        Due.is(11, "stick(4)", x.stick(4), -1);
        Due.is(11, "stick(-1)", x.stick(-1), -1);
        Due.is(11, "stick(32)", x.stick(32), -1);
        Due.unchanged(11, "what can't be", before, x);
        Due.is(11, "deeds", x.count(6), 3);
    }

    private static void minutes() {
        SwivelBoard x = Due.of("board 2;member 0 faces 1;goes:1;");
        Due.is(12, "each minute another", x.minutes(3), 3);
        aims(12, x, 0, 1);
        Due.is(12, "minutes of one call are one deed", x.count(6), 1);
        Due.is(12, "minutes(99)", x.minutes(99), 99);
        Due.fails(12, "minutes(0)", Due.ARGUMENT, () -> x.minutes(0));
        Due.fails(12, "minutes(100)", Due.ARGUMENT, () -> x.minutes(100));
        Due.fails(12, "minutes(-1)", Due.ARGUMENT, () -> x.minutes(-1));
        Due.is(12, "deeds", x.count(6), 2);
        SwivelBoard y = Due.of("board 2;member 0 faces 1;member 1 stuck;goes:1;");
        Due.is(12, "nobody's, and back", y.minutes(4), 4);
        SwivelBoard z = Due.of(FOUR);
        Due.is(12, "the same one's", z.minutes(2), 0);
        aims(12, z, 3, 3, 3, 1);
        // By votes as all was ahead: 0 has none, 1 has one by 0, 2 has one by 1, each at once.
        SwivelBoard w = Due.of("board 3;member 0 faces 1;member 1 faces 1;goes:votes;");
        w.minutes(1);
        aims(12, w, 1, 2, 1);
    }

    private static void undo() {
        SwivelBoard x = Due.of(FOUR);
        String start = Due.view(x);
        x.turn(0, 1);
        x.weigh(2, 7);
        String two = Due.view(x);
        x.stick(3);
        x.minutes(5);
        Due.is(13, "undo(2)", x.undo(2), 2);
        Due.unchanged(13, "undo(2)", two, x);
        Due.fails(13, "undo(3)", Due.ARGUMENT, () -> x.undo(3));
        Due.fails(13, "undo(0)", Due.ARGUMENT, () -> x.undo(0));
        Due.fails(13, "undo(-1)", Due.ARGUMENT, () -> x.undo(-1));
        Due.unchanged(13, "what throws", two, x);
        Due.is(13, "undo(2)", x.undo(2), 0);
        Due.unchanged(13, "undo(2)", start, x);
        Due.fails(13, "undo(1)", Due.ARGUMENT, () -> x.undo(1));
        for (int i = 1; i <= 12; i++) {
            x.weigh(0, 1 + i % 9);
        }
        Due.is(13, "ten at most", x.count(6), 10);
        Due.fails(13, "undo(11)", Due.ARGUMENT, () -> x.undo(11));
        x.image(0);
        for (int i = 11; i >= 2; i--) {
            Due.is(13, "undo(1)", x.undo(1), i - 2);
            Due.is(13, "one by one", x.member(0, 2), 1 + i % 9);
        }
        x.restore(0);
        Due.is(13, "undo(10)", x.undo(10), 0);
        Due.is(13, "eldest are forgotten", x.member(0, 2), 3);
    }

    private static void judge() {
        SwivelBoard x = Due.of(FOUR);
        Due.fails(14, "judge(4, 9)", Due.NO_ELEMENT, () -> x.judge(4, 9));
        Due.fails(14, "judge(-1, 0)", Due.NO_ELEMENT, () -> x.judge(-1, 0));
        Due.fails(14, "judge(0, 9)", Due.STATE, () -> x.judge(0, 9));
        // 3 gets loose, turns to 1 (and drags 0 to 3 by the ring), then it is stuck again.
        Due.row(x, 0, 1, 203, 31, 203, 119, -1);
        String before = Due.view(x);
        Due.is(14, "judge(0, 0)", x.judge(0, 0), -1);
        Due.is(14, "judge(0, 1)", x.judge(0, 1), 0);
        Due.is(14, "judge(0, 2)", x.judge(0, 2), 0);
        Due.is(14, "judge(0, 3)", x.judge(0, 3), 8);
        // The third can't be, so what comes behind it isn't done.
        Due.row(x, 1, 2, 203, 31, 50, 201);
        Due.is(14, "judge(1, 0)", x.judge(1, 0), 2);
        Due.is(14, "judge(1, 1)", x.judge(1, 1), 1);
        Due.is(14, "judge(1, 2), as it was ahead of it", x.judge(1, 2), 1);
        Due.is(14, "judge(1, 3), as it was ahead of it", x.judge(1, 3), 0);
        Due.fails(14, "judge(0, 4)", Due.ARGUMENT, () -> x.judge(0, 4));
        Due.fails(14, "judge(0, -1)", Due.ARGUMENT, () -> x.judge(0, -1));
        x.tray(2, 0, 0);
        Due.is(14, "no deeds", x.judge(2, 0), -1);
        Due.is(14, "no deeds", x.judge(2, 1), 0);
        Due.is(14, "no deeds", x.judge(2, 2), 0);
        Due.is(14, "no deeds", x.judge(2, 3), 8);
        Due.unchanged(14, "to judge", before, x);
    }

    private static void judgeReasons() {
        SwivelBoard x = Due.of(FOUR);
        long[][] told = {{0, 1}, {1, 0}, {3, 0}, {4, 1}, {9, 1}, {30, 1}, {31, 2}, {33, 2}, {34, 1}, {40, 1}, {41, 1},
            {99, 1}, {100, 1}, {101, 0}, {109, 0}, {110, 1}, {139, 0}, {141, 1}, {199, 1}, {200, 0}, {203, 0}, {204, 1},
            {299, 1}, {300, 1}, {-1, 0}, {-2, 1}, {Long.MAX_VALUE, 1}, {Long.MIN_VALUE, 1}, {1L << 32, 1},
            {(1L << 32) - 1, 1}};
        for (long[] t : told) {
            Due.row(x, 0, 3, t[0]);
            Due.is(14, "judge of " + t[0], x.judge(0, 1), t[1]);
            Due.is(14, "judge of " + t[0], x.judge(0, 0), t[1] == 0 ? -1 : 0);
        }
        Due.row(x, 0, 0, 203);
        Due.is(14, "203 cut to 8 bits is -53", x.judge(0, 1), 1);
    }

    private static void perform() {
        SwivelBoard x = Due.of(FOUR);
        Due.fails(15, "perform(4)", Due.NO_ELEMENT, () -> x.perform(4));
        Due.fails(15, "perform(-1)", Due.NO_ELEMENT, () -> x.perform(-1));
        Due.fails(15, "perform(3)", Due.STATE, () -> x.perform(3));
        Due.row(x, 0, 1, 1, 129, 203, -1, 44, 2);
        Due.is(15, "perform(0)", x.perform(0), 4);
        Due.is(15, "each a deed", x.count(6), 4);
        Due.is(15, "weight", x.member(2, 2), 9);
        Due.is(15, "nobody stuck", x.count(2), 0);
        // 3 0 0 1 behind the turn, and 2 aim + 1 each behind the minute.
        aims(15, x, 3, 1, 1, 3);
        Due.is(15, "undo(4)", x.undo(4), 0);
        Due.unchanged(15, "undone", Due.view(Due.of(FOUR)), x);
        x.tray(0, 1, 0);
        Due.is(15, "none", x.perform(0), 0);
        Due.row(x, 0, 1, 101, 101, 101, 101, 101, 101, 101, 101, 101, 101, 101, 101);
        Due.is(15, "twelve", x.perform(0), 12);
        Due.is(15, "ten can be undone", x.count(6), 10);
    }

    private static void session() {
        // By 0: a minute; 0 turned by 1; 3 has weight 8; stick 4; a minute; stick 4; 2 turned by 3.
        SwivelBoard x = Due.of("board 4;goes:who;");
        Due.is(16, "session(0, 7): there is no 4", x.session(0, 7), 5);
        aims(16, x, 1, 2, 3, 2);
        Due.is(16, "weight", x.member(3, 2), 8);
        Due.is(16, "deeds", x.count(6), 5);
        // By 2: 5 turned by 3; 3 by 1; 1 by 1; stick 1; stick 0; 1 has weight 6; 2 turned by 5.
        SwivelBoard y = Due.of("board 6;");
        Due.is(16, "session(2, 7)", y.session(2, 7), 7);
        aims(16, y, 0, 1, 5, 1, 0, 3);
        Due.is(16, "stuck", y.count(2), 3);
        Due.is(16, "weight", y.member(1, 2), 6);
        SwivelBoard w = Due.of("board 4;goes:who;");
        Due.is(16, "session(0, 1)", w.session(0, 1), 1);
        aims(16, w, 0, 1, 2, 3);
        // By -1: 5 turned by 3; 1 by 5.
        SwivelBoard z = Due.of("board 6;");
        Due.is(16, "session(-1, 2)", z.session(-1, 2), 2);
        aims(16, z, 0, 5, 0, 0, 0, 3);
        Due.fails(16, "session(0, 0)", Due.ARGUMENT, () -> z.session(0, 0));
        Due.fails(16, "session(0, 31)", Due.ARGUMENT, () -> z.session(0, 31));
        Due.fails(16, "session(0, -1)", Due.ARGUMENT, () -> z.session(0, -1));
        Due.is(16, "nothing happened", z.count(6), 2);
        z.session(5, 30);
        Due.is(16, "ten at most", z.count(6), 10);
    }
}
