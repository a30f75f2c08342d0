/** Promises 9 to 16 at their boundaries: deeds, refused ones, undone ones, told and drawn ones. */
public final class EdgeDeedTest {
    private static final int[] FAR = {-1, 3, 4, 6, 31, 32, 33, Integer.MIN_VALUE, Integer.MAX_VALUE};
    /** 1 is stuck; each drags all; a notch costs 2, 4, 6. */
    private static final String THREE = "board 3;member 0 faces 2;member 1 faces 1 weight 5 stuck;"
        + "drags:1=1;costs:who*2+2;goes:aim+1;";

    public static void main(String[] args) {
        turnWraps();
        turnRefused();
        weigh();
        stick();
        minutes();
        minutesAtOnce();
        undo();
        undoForgets();
        judge();
        told();
        perform();
        session();
        sessionByDraws();
        Edge.end(9, 16);
    }

    private static void turnWraps() {
        Edge.of(9, "a NOTCH: AIM 1 more, 0 behind the greatest", () -> {
            for (int n = 2; n <= 6; n++) {
                for (int aim = 0; aim < n; aim++) {
                    for (int notches = 1; notches < n; notches++) {
                        SwivelBoard x = Due.of("board " + n + ";member " + (n - 1) + " faces " + aim + ";");
                        Edge.is("turn", x.turn(n - 1, notches), notches);
                        Edge.is("aim " + aim + " by " + notches + " of " + n, x.member(n - 1, 0), (aim + notches) % n);
                        Edge.is("no other one", x.member(0, 0), 0);
                    }
                }
            }
        });
        Edge.of(9, "and so does each other one that isn't STUCK, wherever it is", () -> {
            SwivelBoard x = Due.of("board 6;member 0 faces 5;member 1 faces 4;member 2 faces 3 stuck;member 3 faces 1;"
                + "member 5 faces 5;drags:1=1;");
            Edge.is("turn(4, 5)", x.turn(4, 5), 5);
            Edge.aims(x, 4, 3, 3, 0, 5, 4);
        });
        Edge.of(9, "its COST: each NOTCH, 1 to 99", () -> {
            Edge.is("the dearest", Due.of("board 6;costs:999;").turn(5, 5), 495);
            Edge.is("the cheapest", Due.of("board 6;costs:0;").turn(5, 1), 1);
            Edge.is("of who is TURNED alone", Due.of(THREE).turn(2, 2), 12);
        });
    }

    private static void turnRefused() {
        Edge.of(9, "below 0: 1 no such MEMBER", () -> {
            SwivelBoard x = Due.of(THREE);
            String before = Due.view(x);
            for (int m : FAR) {
                Edge.is("turn(" + m + ", 1)", x.turn(m, 1), -1);
            }
            Edge.unchanged("turn", before, x);
        });
        Edge.of(9, "below 0: 1 no such NOTCHES (1 to MEMBERS less 1)", () -> {
            for (int n = 2; n <= 6; n++) {
                SwivelBoard x = Due.of("board " + n + ";");
                String before = Due.view(x);
                int[] wrong = {0, n, n + 1, -1, Integer.MIN_VALUE, Integer.MAX_VALUE};
                for (int notches : wrong) {
                    Edge.is("turn(0, " + notches + ") of " + n, x.turn(0, notches), -1);
                }
                Edge.unchanged("turn", before, x);
                Edge.is("turn(0, 1)", x.turn(0, 1), 1);
                Edge.is("turn(0, " + (n - 1) + ")", x.turn(0, n - 1), n - 1);
            }
        });
        Edge.of(9, "below 0: 2 it is STUCK", () -> {
            SwivelBoard x = Due.of(THREE);
            String before = Due.view(x);
            Edge.is("turn(1, 1)", x.turn(1, 1), -2);
            Edge.is("turn(1, 2)", x.turn(1, 2), -2);
            Edge.is("turn(1, 3): no such notches", x.turn(1, 3), -1);
            Edge.is("turn(1, 0): no such notches", x.turn(1, 0), -1);
            Edge.unchanged("turn", before, x);
        });
        Edge.of(9, "nothing happens: it is no DEED", () -> {
            SwivelBoard x = Due.of(THREE);
            x.turn(0, 1);
            x.turn(1, 1);
            x.turn(0, 3);
            x.turn(3, 1);
            Edge.is("count(6)", x.count(6), 1);
            Edge.is("undo(1)", x.undo(1), 0);
            Edge.aims(x, 2, 1, 0);
        });
    }

    private static void weigh() {
        Edge.of(10, "1 no such WEIGHT (1 to 9)", () -> {
            SwivelBoard x = Due.of(THREE);
            String before = Due.view(x);
            int[] wrong = {0, 10, -1, 15, 16, 17, Integer.MIN_VALUE, Integer.MAX_VALUE};
            for (int w : wrong) {
                Edge.is("weigh(0, " + w + ")", x.weigh(0, w), -1);
            }
            Edge.unchanged("weigh", before, x);
            Edge.is("weigh(2, 1)", x.weigh(2, 1), 1);
            Edge.is("weigh(2, 9)", x.weigh(2, 9), 1);
            Edge.is("weigh(2, 8)", x.weigh(2, 8), 9);
            Edge.is("member(2, 2)", x.member(2, 2), 8);
        });
        Edge.of(10, "1 no such MEMBER", () -> {
            SwivelBoard x = Due.of(THREE);
            String before = Due.view(x);
            for (int m : FAR) {
                Edge.is("weigh(" + m + ", 2)", x.weigh(m, 2), -1);
                Edge.is("weigh(" + m + ", 10)", x.weigh(m, 10), -1);
            }
            Edge.unchanged("weigh", before, x);
        });
        Edge.of(10, "its WEIGHT before, be it the same, be it STUCK", () -> {
            SwivelBoard x = Due.of(THREE);
            Edge.is("weigh(1, 7)", x.weigh(1, 7), 5);
            Edge.is("weigh(1, 7) again", x.weigh(1, 7), 7);
            Edge.is("both are DEEDS", x.count(6), 2);
            Edge.weights(x, 1, 7, 1);
            Edge.is("undo(1)", x.undo(1), 1);
            Edge.weights(x, 1, 7, 1);
            Edge.is("undo(1)", x.undo(1), 0);
            Edge.weights(x, 1, 5, 1);
        });
        Edge.of(10, "another WEIGHT of one MEMBER alone", () -> {
            for (int m = 0; m < 6; m++) {
                SwivelBoard x = Due.of("board 6;");
                x.weigh(m, 9);
                for (int i = 0; i < 6; i++) {
                    Edge.is("member(" + i + ", 2)", x.member(i, 2), i == m ? 9 : 1);
                }
            }
        });
    }

    private static void stick() {
        Edge.of(11, "1 no such MEMBER", () -> {
            SwivelBoard x = Due.of(THREE);
            String before = Due.view(x);
            for (int m : FAR) {
                Edge.is("stick(" + m + ")", x.stick(m), -1);
            }
            Edge.unchanged("stick", before, x);
        });
        Edge.of(11, "STUCK, or no more: 1 if STUCK then, else 0", () -> {
            SwivelBoard x = Due.of("board 6;");
            for (int m = 0; m < 6; m++) {
                Edge.is("stick(" + m + ")", x.stick(m), 1);
            }
            Edge.is("all", x.count(2), 63);
            Edge.is("stick(5)", x.stick(5), 0);
            Edge.is("stick(5)", x.stick(5), 1);
            Edge.is("stick(0)", x.stick(0), 0);
            Edge.is("all but 0", x.count(2), 62);
            Edge.is("turn(0, 1)", x.turn(0, 1), 1);
        });
        Edge.of(11, "who is STUCK keeps its AIM, its VOTES, its WEIGHT", () -> {
            SwivelBoard x = Due.of(THREE);
            x.stick(0);
            Edge.aims(x, 2, 1, 0);
            Edge.is("member(2, 3)", x.member(2, 3), 6);
            Edge.weights(x, 1, 5, 1);
        });
    }

    private static void minutes() {
        Edge.of(12, "n MINUTES (1 to 99). IllegalArgumentException: n", () -> {
            SwivelBoard x = Due.of(THREE);
            int[] wrong = {0, 100, -1, Integer.MIN_VALUE, Integer.MAX_VALUE};
            String before = Due.view(x);
            for (int n : wrong) {
                Edge.fails("minutes(" + n + ")", Due.ARGUMENT, () -> x.minutes(n));
            }
            Edge.unchanged("minutes", before, x);
            SwivelBoard y = Due.of("board 2;member 0 faces 1;goes:1;");
            Edge.is("minutes(1)", y.minutes(1), 1);
            Edge.is("minutes(99)", y.minutes(99), 99);
            Edge.aims(y, 1, 0);
        });
        Edge.of(12, "in how many THE CHAIR was another one's (or nobody's) behind than ahead", () -> {
            Edge.is("the same one's", Due.of("board 3;member 0 faces 1 stuck;goes:0;").minutes(9), 0);
            Edge.is("nobody's all along", Due.of("board 3;").minutes(9), 0);
            SwivelBoard x = Due.of("board 3;member 1 stuck;member 2 stuck;goes:1;");
            Edge.is("from nobody's to 1's", x.minutes(1), 1);
            Edge.is("from 1's to 2's", x.minutes(1), 1);
            Edge.is("from 2's to nobody's", x.minutes(1), 1);
            Edge.is("each of six", x.minutes(6), 6);
            SwivelBoard y = Due.of("board 3;member 0 faces 1 weight 9 stuck;goes:1;");
            Edge.is("others turn, 1 keeps it", y.minutes(5), 0);
            SwivelBoard z = Due.of("board 4;member 0 faces 2;member 1 stuck;member 2 stuck;member 3 stuck;goes:2;");
            Edge.is("2's and nobody's in turn", z.minutes(5), 5);
        });
        Edge.of(12, "MINUTES of one call are one DEED", () -> {
            SwivelBoard x = Due.of("board 6;member 0 faces 3;goes:who+1;");
            x.minutes(99);
            Edge.is("count(6)", x.count(6), 1);
            Edge.aims(x, 0, 0, 3, 0, 3, 0);
            Edge.is("undo(1)", x.undo(1), 0);
            Edge.aims(x, 3, 0, 0, 0, 0, 0);
        });
        Edge.of(12, "a MINUTE without a law turns nobody, yet is a DEED", () -> {
            SwivelBoard x = Due.of("board 2;member 0 faces 1;");
            Edge.is("minutes(1)", x.minutes(1), 0);
            Edge.is("count(6)", x.count(6), 1);
            Edge.aims(x, 1, 0);
        });
    }

    private static void minutesAtOnce() {
        Edge.of(12, "all at once, as all was ahead", () -> {
            // Votes ahead: 0 has 3 of 2, 1 has 1 of 0, 2 none.
            SwivelBoard x = Due.of("board 4;member 0 faces 1;member 2 faces 2 weight 3;goes:votes;");
            x.minutes(1);
            Edge.aims(x, 0, 1, 2, 0);
            x.minutes(1);
            Edge.aims(x, 3, 1, 3, 0);
        });
        Edge.of(12, "nobody dragged", () -> {
            SwivelBoard x = Due.of("board 3;drags:1=1;goes:who;");
            x.minutes(1);
            Edge.aims(x, 0, 1, 2);
        });
        Edge.of(12, "all who aren't STUCK", () -> {
            SwivelBoard x = Due.of("board 6;member 0 stuck;member 3 faces 4 stuck;goes:5;");
            x.minutes(1);
            Edge.aims(x, 0, 5, 5, 4, 5, 5);
            x.minutes(1);
            Edge.aims(x, 0, 4, 4, 4, 4, 4);
        });
        Edge.of(12, "AIM 0 behind the greatest", () -> {
            for (int n = 2; n <= 6; n++) {
                for (int k = 0; k < n; k++) {
                    SwivelBoard x = Due.of("board " + n + ";member 0 faces " + (n - 1) + ";goes:" + k + ";");
                    x.minutes(1);
                    Edge.is(k + " of " + n, x.member(0, 0), (n - 1 + k) % n);
                    Edge.is(k + " of " + n, x.member(1, 0), k);
                }
            }
        });
    }

    private static void undo() {
        Edge.of(13, "n isn't 1 to 10", () -> {
            SwivelBoard x = Due.of(THREE);
            for (int i = 0; i < 12; i++) {
                x.turn(0, 1);
            }
            String before = Due.view(x);
            int[] wrong = {0, -1, 11, 12, Integer.MIN_VALUE, Integer.MAX_VALUE};
            for (int n : wrong) {
                Edge.fails("undo(" + n + ")", Due.ARGUMENT, () -> x.undo(n));
            }
            Edge.unchanged("undo", before, x);
            Edge.is("undo(10)", x.undo(10), 0);
        });
        Edge.of(13, "there aren't so many", () -> {
            SwivelBoard x = Due.of(THREE);
            Edge.fails("undo(1)", Due.ARGUMENT, () -> x.undo(1));
            x.turn(0, 1);
            x.turn(0, 1);
            String before = Due.view(x);
            Edge.fails("undo(3)", Due.ARGUMENT, () -> x.undo(3));
            Edge.fails("undo(10)", Due.ARGUMENT, () -> x.undo(10));
            Edge.unchanged("undo", before, x);
            Edge.is("undo(2)", x.undo(2), 0);
            Edge.fails("undo(1)", Due.ARGUMENT, () -> x.undo(1));
        });
        Edge.of(13, "each of the DEEDS, the latest first", () -> {
            SwivelBoard x = Due.of(THREE);
            String[] was = new String[4];
            was[0] = Due.view(x);
            x.turn(0, 2);
            was[1] = Due.view(x);
            x.weigh(2, 9);
            was[2] = Due.view(x);
            x.stick(1);
            was[3] = Due.view(x);
            x.minutes(2);
            for (int i = 3; i >= 0; i--) {
                Edge.is("undo(1)", x.undo(1), i);
                Edge.unchanged("undo(1)", was[i], x);
            }
        });
        Edge.of(13, "MINUTES and what comes behind them, of two to six", () -> {
            for (int n = 2; n <= 6; n++) {
                SwivelBoard x = Due.of("board " + n + ";member 1 weight 9 stuck;member 0 faces 1 weight 8;goes:1;");
                String start = Due.view(x);
                x.minutes(1);
                String one = Due.view(x);
                x.minutes(1);
                x.weigh(0, 4);
                x.turn(0, n - 1);
                Edge.is("undo(3)", x.undo(3), 1);
                Edge.unchanged("undo(3) of " + n, one, x);
                Edge.is("undo(1)", x.undo(1), 0);
                Edge.unchanged("undo(1) of " + n, start, x);
            }
        });
        Edge.of(13, "several at once", () -> {
            SwivelBoard x = Due.of(THREE);
            x.weigh(0, 2);
            String one = Due.view(x);
            x.weigh(0, 3);
            x.stick(0);
            x.turn(2, 1);
            Edge.is("undo(3)", x.undo(3), 1);
            Edge.unchanged("undo(3)", one, x);
        });
    }

    private static void undoForgets() {
        Edge.of(13, "10 at most (eldest are forgotten)", () -> {
            SwivelBoard x = Due.of("board 6;");
            for (int i = 1; i <= 11; i++) {
                Edge.is("weigh", x.weigh(5, 1 + i % 9), 1 + (i - 1) % 9);
                Edge.is("count(6)", x.count(6), Math.min(i, 10));
            }
            Edge.is("undo(10)", x.undo(10), 0);
            Edge.is("behind the first", x.member(5, 2), 2);
            Edge.fails("undo(1)", Due.ARGUMENT, () -> x.undo(1));
        });
        Edge.of(13, "ten DEEDS, all undone", () -> {
            SwivelBoard x = Due.of("board 6;member 2 faces 3;");
            for (int i = 0; i < 10; i++) {
                x.turn(2, 5);
            }
            Edge.aims(x, 0, 0, 5, 0, 0, 0);
            Edge.is("undo(10)", x.undo(10), 0);
            Edge.aims(x, 0, 0, 3, 0, 0, 0);
        });
        Edge.of(13, "undone and done anew, many times over", () -> {
            SwivelBoard x = Due.of("board 6;");
            for (int i = 0; i < 30; i++) {
                x.turn(0, 1);
                x.turn(0, 1);
                x.undo(1);
            }
            Edge.is("one of ten is undone", x.count(6), 9);
            Edge.is("thirty notches", x.member(0, 0), 0);
            Edge.is("undo(9)", x.undo(9), 0);
            Edge.is("21 notches", x.member(0, 0), 3);
        });
    }

    private static void judge() {
        Edge.of(14, "no such TRAY; it is MISSING; another what", () -> {
            SwivelBoard x = Due.of(THREE);
            int[] no = {-1, 4, Integer.MIN_VALUE, Integer.MAX_VALUE};
            for (int t : no) {
                Edge.fails("judge(" + t + ", 0)", Due.NO_ELEMENT, () -> x.judge(t, 0));
                Edge.fails("judge(" + t + ", 9)", Due.NO_ELEMENT, () -> x.judge(t, 9));
            }
            for (int t = 0; t < 4; t++) {
                int tray = t;
                Edge.fails("judge(" + t + ", 0)", Due.STATE, () -> x.judge(tray, 0));
                Edge.fails("judge(" + t + ", -1)", Due.STATE, () -> x.judge(tray, -1));
            }
            x.tray(3, 0, 0);
            int[] whats = {-1, 4, Integer.MIN_VALUE, Integer.MAX_VALUE};
            for (int what : whats) {
                Edge.fails("judge(3, " + what + ")", Due.ARGUMENT, () -> x.judge(3, what));
            }
        });
        Edge.of(14, "an empty TRAY: all can be, as it is", () -> {
            SwivelBoard x = Due.of(THREE);
            x.tray(3, 0, 0);
            int[] due = {-1, 0, 2, 2};
            for (int what = 0; what < 4; what++) {
                Edge.is("judge(3, " + what + ")", x.judge(3, what), due[what]);
            }
        });
        Edge.of(14, "thirty TOLD DEEDS, the last of which can't be", () -> {
            SwivelBoard x = Due.of("board 6;");
            x.tray(0, 1, 30);
            for (int i = 0; i < 30; i++) {
                x.write(0, i, i < 29 ? 1 : 6);
            }
            Edge.is("judge(0, 0)", x.judge(0, 0), 29);
            Edge.is("judge(0, 1)", x.judge(0, 1), 1);
            // 29 notches are 5 of 6.
            Edge.is("judge(0, 2)", x.judge(0, 2), 5);
            x.write(0, 29, 1);
            Edge.is("judge(0, 0)", x.judge(0, 0), -1);
            Edge.is("judge(0, 2), nobody", x.judge(0, 2), -1);
        });
        Edge.of(14, "the first place that can't be, why", () -> {
            SwivelBoard x = Due.of(THREE);
            Due.row(x, 0, 1, 11, 99, 1);
            Edge.is("stuck: place", x.judge(0, 0), 0);
            Edge.is("stuck: why", x.judge(0, 1), 2);
            Due.row(x, 0, 1, 201, 11, 201, 11, 99);
            Edge.is("stuck by a told deed: place", x.judge(0, 0), 3);
            Edge.is("stuck by a told deed: why", x.judge(0, 1), 2);
            Due.row(x, 0, 1, 1, 300, 11);
            Edge.is("no such: place", x.judge(0, 0), 1);
            Edge.is("no such: why", x.judge(0, 1), 1);
        });
        Edge.of(14, "as if done: behind those that come ahead of what can't be", () -> {
            SwivelBoard x = Due.of(THREE);
            Due.row(x, 0, 1, 201, 202, 5, 200);
            Edge.is("judge(0, 3)", x.judge(0, 3), 4);
            Due.row(x, 0, 1, 109, 500, 111);
            Edge.is("judge(0, 2)", x.judge(0, 2), 2);
            Due.row(x, 0, 1, 500, 109);
            Edge.is("judge(0, 2)", x.judge(0, 2), 2);
        });
        Edge.of(14, "nothing is done", () -> {
            SwivelBoard x = Due.of(THREE);
            x.turn(0, 1);
            String before = Due.view(x);
            Due.row(x, 0, 1, 1, -1, 119, 201, 11, 21, 22, 101, 102, 103, 200, 201, 202, -1, 77);
            for (int what = 0; what < 4; what++) {
                x.judge(0, what);
            }
            Edge.unchanged("judge", before, x);
            Edge.is("undo(1)", x.undo(1), 0);
            Edge.unchanged("undo", Due.view(Due.of(THREE)), x);
        });
    }

    /** What a told deed does, by what can be seen behind perform(), and why it can't be. */
    private static void told(String text, long v, int why, String twinText) {
        SwivelBoard x = Due.of(text);
        Due.row(x, 0, 3, v);
        Edge.is("judge of " + v, x.judge(0, 1), why);
        Edge.is("perform of " + v, x.perform(0), why == 0 ? 1 : 0);
        Edge.is("a DEED, " + v, x.count(6), why == 0 ? 1 : 0);
        SwivelBoard twin = Due.of(twinText);
        for (int m = 0; m < x.count(1); m++) {
            for (int what = 0; what < 5; what++) {
                Edge.is("member(" + m + ", " + what + ") behind " + v, x.member(m, what), twin.member(m, what));
            }
        }
    }

    private static void told() {
        String six = "board 6;member 2 stuck;goes:1;";
        Edge.of(14, "0 to 99: MEMBER v by 10 is TURNED by v modulo 10 NOTCHES", () -> {
            told(six, 0, 1, six);
            told(six, 1, 0, six + "member 0 faces 1;");
            told(six, 5, 0, six + "member 0 faces 5;");
            told(six, 6, 1, six);
            told(six, 9, 1, six);
            told(six, 10, 1, six);
            told(six, 21, 2, six);
            told(six, 20, 1, six);
            told(six, 55, 0, six + "member 5 faces 5;");
            told(six, 60, 1, six);
            told(six, 61, 1, six);
            told(six, 99, 1, six);
        });
        Edge.of(14, "100 to 199: MEMBER (v - 100) by 10 has WEIGHT v modulo 10", () -> {
            told(six, 100, 1, six);
            told(six, 101, 0, six);
            told(six, 109, 0, six + "member 0 weight 9;");
            told(six, 110, 1, six);
            told(six, 125, 0, six + "member 2 weight 5;");
            told(six, 159, 0, six + "member 5 weight 9;");
            told(six, 161, 1, six);
            told(six, 199, 1, six);
        });
        Edge.of(14, "200 to 299: to STICK v - 200", () -> {
            told(six, 200, 0, six + "member 0 stuck;");
            told(six, 202, 0, "board 6;goes:1;");
            told(six, 205, 0, six + "member 5 stuck;");
            told(six, 206, 1, six);
            told(six, 232, 1, six);
            told(six, 299, 1, six);
        });
        Edge.of(14, "NONE: a MINUTE", () -> {
            told("board 2;member 0 stuck;goes:1;", -1, 0, "board 2;member 0 stuck;member 1 faces 1;");
            SwivelBoard x = Due.of("board 2;goes:1;");
            for (int sort = 0; sort < 4; sort++) {
                Due.row(x, sort, sort, -1);
                Edge.is("perform of sort " + sort, x.perform(sort), 1);
            }
            Edge.is("each a DEED", x.count(6), 4);
        });
        Edge.of(14, "others: 1", () -> {
            long[] others = {300, 301, 999, -2, -3, -100, 1L << 32, (1L << 32) - 1, (1L << 32) + 1, -(1L << 32),
                Long.MIN_VALUE, Long.MAX_VALUE, Integer.MIN_VALUE, Integer.MAX_VALUE};
            for (long v : others) {
                told(six, v, 1, six);
            }
        });
    }

    private static void perform() {
        Edge.of(15, "no such TRAY; it is MISSING", () -> {
            SwivelBoard x = Due.of(THREE);
            int[] no = {-1, 4, Integer.MIN_VALUE, Integer.MAX_VALUE};
            for (int t : no) {
                Edge.fails("perform(" + t + ")", Due.NO_ELEMENT, () -> x.perform(t));
            }
            for (int t = 0; t < 4; t++) {
                int tray = t;
                Edge.fails("perform(" + t + ")", Due.STATE, () -> x.perform(tray));
            }
            Edge.is("count(6)", x.count(6), 0);
        });
        Edge.of(15, "an empty TRAY: none", () -> {
            SwivelBoard x = Due.of(THREE);
            x.tray(0, 3, 0);
            Edge.is("perform(0)", x.perform(0), 0);
            Edge.unchanged("perform(0)", Due.view(Due.of(THREE)), x);
        });
        Edge.of(15, "till one can't be: the first", () -> {
            SwivelBoard x = Due.of(THREE);
            Due.row(x, 0, 1, 11, 1, 109);
            Edge.is("perform(0)", x.perform(0), 0);
            Edge.unchanged("perform(0)", Due.view(Due.of(THREE)), x);
        });
        Edge.of(15, "till one can't be: one between, those behind it aren't done", () -> {
            SwivelBoard x = Due.of(THREE);
            Due.row(x, 0, 1, 109, 11, 108, 107);
            Edge.is("perform(0)", x.perform(0), 1);
            Edge.weights(x, 9, 5, 1);
            Edge.is("count(6)", x.count(6), 1);
        });
        Edge.of(15, "all of thirty, each a DEED", () -> {
            SwivelBoard x = Due.of("board 2;");
            x.tray(0, 0, 30);
            for (int i = 0; i < 30; i++) {
                x.write(0, i, 1);
            }
            Edge.is("perform(0)", x.perform(0), 30);
            Edge.is("count(6)", x.count(6), 10);
            Edge.aims(x, 0, 0);
            Edge.is("undo(1)", x.undo(1), 9);
            Edge.aims(x, 1, 0);
        });
        Edge.of(15, "two MINUTES told are two DEEDS", () -> {
            SwivelBoard x = Due.of("board 3;goes:1;");
            Due.row(x, 0, 0, -1, -1);
            Edge.is("perform(0)", x.perform(0), 2);
            Edge.is("undo(1)", x.undo(1), 1);
            Edge.aims(x, 1, 1, 1);
        });
    }

    private static void session() {
        Edge.of(16, "so many times (1 to 30). IllegalArgumentException: how many times", () -> {
            SwivelBoard x = Due.of("board 6;goes:1;");
            String before = Due.view(x);
            int[] wrong = {0, 31, -1, Integer.MIN_VALUE, Integer.MAX_VALUE};
            for (int times : wrong) {
                Edge.fails("session(0, " + times + ")", Due.ARGUMENT, () -> x.session(0, times));
            }
            Edge.unchanged("session", before, x);
            // The first draw of 0 is 0: a minute.
            Edge.is("session(0, 1)", x.session(0, 1), 1);
            Edge.aims(x, 1, 1, 1, 1, 1, 1);
        });
        Edge.of(16, "none of them can be", () -> {
            // By 2 MEMBER 5 would be turned, by 6 MEMBER 3 stuck; by 10 MEMBER 2 of three turned by 4.
            SwivelBoard x = new SwivelBoard();
            Edge.is("session(2, 1)", x.session(2, 1), 0);
            Edge.is("session(6, 1)", x.session(6, 1), 0);
            Edge.is("count(6)", x.count(6), 0);
            Edge.is("no such notches", Due.of("board 3;").session(10, 1), 0);
            Edge.is("it is stuck", Due.of("board 6;member 2 stuck;").session(10, 1), 0);
            Edge.is("it isn't", Due.of("board 6;").session(10, 1), 1);
        });
        Edge.of(16, "10 DEEDS at most", () -> {
            SwivelBoard x = Due.of("board 6;goes:1;");
            int could = x.session(12345, 30);
            Edge.is("more than ten could be", could > 10 ? 1 : 0, 1);
            Edge.is("count(6)", x.count(6), 10);
        });
    }

    private static int seed;

    private static int draw() {
        seed = 1103515245 * seed + 12345;
        return seed >>> 16;
    }

    /** The same by calls of its own. */
    private static int byCalls(SwivelBoard x, int from, int times) {
        seed = from;
        int could = 0;
        for (int i = 0; i < times; i++) {
            int sort = draw() % 5;
            int answer;
            if (sort == 0) {
                answer = x.minutes(1);
            } else {
                int m = draw() % 6;
                if (sort == 4) {
                    answer = x.stick(m);
                } else if (sort == 3) {
                    answer = x.weigh(m, 1 + draw() % 9);
                } else {
                    answer = x.turn(m, 1 + draw() % 5);
                }
            }
            could += answer >= 0 ? 1 : 0;
        }
        return could;
    }

    private static void sessionByDraws() {
        Edge.of(16, "DRAWS wrap round an int, x >>> 16 is never below 0; if it can be", () -> {
            int[] seeds = {0, 1, -1, 2, 7, 12345, -12345, 65535, 65536, Integer.MIN_VALUE, Integer.MAX_VALUE, 0x7fff0000};
            for (int n = 2; n <= 6; n++) {
                String text = "board " + n + ";member 1 faces 1 weight 4;drags:apart=1;goes:aim+who+1;";
                for (int s : seeds) {
                    for (int times : new int[] {1, 5, 30}) {
                        SwivelBoard x = Due.of(text);
                        SwivelBoard twin = Due.of(text);
                        Edge.is("session(" + s + ", " + times + ") of " + n, x.session(s, times), byCalls(twin, s, times));
                        Edge.unchanged("session(" + s + ", " + times + ") of " + n, Due.view(twin), x);
                    }
                }
            }
        });
    }
}
