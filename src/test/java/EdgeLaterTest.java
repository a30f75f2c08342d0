/** Promises 28 to 37 at their boundaries: by itself, seen, chances. */
public final class EdgeLaterTest {
    private static final int[] FAR = {-1, 3, 4, 6, 31, 32, Integer.MIN_VALUE, Integer.MAX_VALUE};
    private static final int[] NO_TRAY = {-1, 4, 5, Integer.MIN_VALUE, Integer.MAX_VALUE};
    private static final int[] NO_MINUTES = {-1, 100_000, 100_001, Integer.MIN_VALUE, Integer.MAX_VALUE};
    private static final String STILL = "board 3;member 0 faces 1;";
    /** By 0's aims 2, 0, 1: 2's, nobody's, 1's. */
    private static final String WHEEL = "board 3;member 0 faces 2;member 1 stuck;member 2 stuck;goes:1;";

    public static void main(String[] args) {
        settles();
        chairIn();
        aimIn();
        reign();
        first();
        longCourse();
        seen();
        seenAt();
        ask();
        chance();
        chanceTerms();
        likeliest();
        Edge.end(28, 37);
    }

    private static void settles() {
        Edge.of(28, "another what", () -> {
            SwivelBoard x = Due.of(STILL);
            int[] others = {-1, 2, Integer.MIN_VALUE, Integer.MAX_VALUE};
            for (int what : others) {
                Edge.fails("settles(" + what + ")", Due.ARGUMENT, () -> x.settles(what));
            }
        });
        Edge.of(28, "both the least: nothing turns", () -> {
            String[] texts = {STILL, "board 2;goes:2;", "board 3;member 0 stuck;member 1 stuck;member 2 stuck;goes:1;"};
            for (String t : texts) {
                Edge.is("settles(0) of " + t, Due.of(t).settles(0), 0);
                Edge.is("settles(1) of " + t, Due.of(t).settles(1), 1);
            }
        });
        Edge.of(28, "a ROUND without a TAIL", () -> {
            for (int n = 2; n <= 6; n++) {
                SwivelBoard x = Due.of("board " + n + ";member 1 faces 1;goes:1;");
                Edge.is("settles(0) of " + n, x.settles(0), 0);
                Edge.is("settles(1) of " + n, x.settles(1), n);
            }
        });
        Edge.of(28, "a TAIL of 1, of more, then a ROUND of 1, of more", () -> {
            // Of two 1 stays out behind one minute.
            SwivelBoard x = Due.of("board 2;member 0 faces 1;goes:aim;");
            Edge.is("settles(0)", x.settles(0), 1);
            Edge.is("settles(1)", x.settles(1), 1);
            // Of four by aim+1: 0, 1, 3, 3 ..
            SwivelBoard y = Due.of("board 4;member 1 stuck;member 2 stuck;member 3 stuck;goes:aim+1;");
            Edge.is("settles(0)", y.settles(0), 2);
            Edge.is("settles(1)", y.settles(1), 1);
            // Of five by aim: 1, 2, 4, 3, 1 .. : a round of 4; with 0 it would stay 0.
            SwivelBoard z = Due.of("board 5;member 0 faces 1;goes:aim;");
            Edge.is("settles(0)", z.settles(0), 0);
            Edge.is("settles(1)", z.settles(1), 4);
            // Of six by aim: 1, 2, 4, 2 ..
            SwivelBoard w = Due.of("board 6;member 0 faces 1;goes:aim;");
            Edge.is("settles(0)", w.settles(0), 1);
            Edge.is("settles(1)", w.settles(1), 2);
        });
        Edge.of(28, "behind each change anew", () -> {
            SwivelBoard x = new SwivelBoard();
            Edge.is("a new object: settles(0)", x.settles(0), 0);
            Edge.is("a new object: settles(1)", x.settles(1), 1);
            x.image(0);
            Due.load(x, "board 4;member 1 stuck;member 2 stuck;member 3 stuck;goes:aim+1;");
            Edge.is("settles(0)", x.settles(0), 2);
            x.turn(0, 1);
            Edge.is("settles(0) behind a turn", x.settles(0), 1);
            x.turn(0, 2);
            Edge.is("settles(0) behind two", x.settles(0), 0);
            x.undo(2);
            Edge.is("settles(0) undone", x.settles(0), 2);
            x.stick(0);
            Edge.is("settles(0) stuck", x.settles(0), 0);
            x.stick(0);
            x.minutes(1);
            Edge.is("settles(0) behind a minute", x.settles(0), 1);
            Due.load(x, "board 2;member 0 faces 1;goes:weight;");
            Edge.is("settles(1) of another board", x.settles(1), 2);
            x.weigh(0, 2);
            x.weigh(1, 2);
            Edge.is("settles(1) behind weights", x.settles(1), 1);
            x.restore(0);
            Edge.is("settles(1) of the image", x.settles(1), 1);
        });
        Edge.of(28, "nothing is done", () -> {
            SwivelBoard x = Due.of(WHEEL);
            String before = Due.view(x);
            x.settles(0);
            x.settles(1);
            x.chairIn(7);
            x.aimIn(0, 7);
            x.reign(0, 7);
            x.first(1);
            Edge.unchanged("settles", before, x);
        });
    }

    private static void chairIn() {
        Edge.of(29, "n MINUTES (0 to 99,999). IllegalArgumentException: n", () -> {
            SwivelBoard x = Due.of(WHEEL);
            for (int n : NO_MINUTES) {
                Edge.fails("chairIn(" + n + ")", Due.ARGUMENT, () -> x.chairIn(n));
            }
            Edge.is("chairIn(0)", x.chairIn(0), 2);
            // 99,999 is thrice 33,333.
            Edge.is("chairIn(99999)", x.chairIn(99_999), 2);
            Edge.is("chairIn(99998)", x.chairIn(99_998), 1);
        });
        Edge.of(29, "NONE: nobody", () -> {
            Edge.is("chairIn(1)", Due.of(WHEEL).chairIn(1), -1);
            Edge.is("chairIn(99997)", Due.of(WHEEL).chairIn(99_997), -1);
            Edge.is("without a law", Due.of("board 2;").chairIn(5), -1);
        });
        Edge.of(29, "ahead of a ROUND that is shorter than the TAIL", () -> {
            // 0's aims are 0, 1, 3, 3 ..
            SwivelBoard x = Due.of("board 4;member 1 stuck;member 2 stuck;member 3 stuck;goes:aim+1;");
            int[] due = {-1, 1, 3, 3};
            for (int n = 0; n < due.length; n++) {
                Edge.is("chairIn(" + n + ")", x.chairIn(n), due[n]);
            }
        });
        Edge.of(29, "ahead of the ROUND, at its begin, within it", () -> {
            // Of six by aim 0's aims are 1, 2, 4, 2, 4 ..
            SwivelBoard x = Due.of("board 6;member 0 faces 1;goes:aim;");
            int[] due = {1, 2, 4, 2, 4};
            for (int n = 0; n < due.length; n++) {
                Edge.is("chairIn(" + n + ")", x.chairIn(n), due[n]);
            }
            Edge.is("chairIn(99999)", x.chairIn(99_999), 2);
            Edge.is("chairIn(99998)", x.chairIn(99_998), 4);
        });
    }

    private static void aimIn() {
        Edge.of(30, "no such MEMBER, ahead of n", () -> {
            SwivelBoard x = Due.of(WHEEL);
            for (int m : FAR) {
                Edge.fails("aimIn(" + m + ", 0)", Due.NO_ELEMENT, () -> x.aimIn(m, 0));
                Edge.fails("aimIn(" + m + ", -1)", Due.NO_ELEMENT, () -> x.aimIn(m, -1));
            }
        });
        Edge.of(30, "n MINUTES (0 to 99,999)", () -> {
            SwivelBoard x = Due.of(WHEEL);
            for (int n : NO_MINUTES) {
                Edge.fails("aimIn(0, " + n + ")", Due.ARGUMENT, () -> x.aimIn(0, n));
            }
            int[] due = {2, 0, 1, 2};
            for (int n = 0; n < 4; n++) {
                Edge.is("aimIn(0, " + n + ")", x.aimIn(0, n), due[n]);
            }
            Edge.is("aimIn(0, 99999)", x.aimIn(0, 99_999), 2);
            Edge.is("who is stuck", x.aimIn(2, 99_999), 0);
        });
    }

    private static void reign() {
        Edge.of(31, "no such MEMBER, ahead of n", () -> {
            SwivelBoard x = Due.of(WHEEL);
            for (int m : FAR) {
                Edge.fails("reign(" + m + ", 0)", Due.NO_ELEMENT, () -> x.reign(m, 0));
                Edge.fails("reign(" + m + ", -1)", Due.NO_ELEMENT, () -> x.reign(m, -1));
            }
        });
        Edge.of(31, "n 0 to 9,999. IllegalArgumentException: n", () -> {
            SwivelBoard x = Due.of(WHEEL);
            int[] wrong = {-1, 10_000, 99_999, Integer.MIN_VALUE, Integer.MAX_VALUE};
            for (int n : wrong) {
                Edge.fails("reign(0, " + n + ")", Due.ARGUMENT, () -> x.reign(0, n));
            }
            // At 0, 3, .. 9,999 it is 2's, at 2, 5, .. 9,998 1's.
            Edge.is("reign(2, 9999)", x.reign(2, 9_999), 3334);
            Edge.is("reign(1, 9999)", x.reign(1, 9_999), 3333);
            Edge.is("reign(0, 9999)", x.reign(0, 9_999), 0);
        });
        Edge.of(31, "at how many of 0, 1 .. n: both ends count", () -> {
            SwivelBoard x = Due.of(WHEEL);
            int[] two = {1, 1, 1, 2, 2, 2, 3};
            int[] one = {0, 0, 1, 1, 1, 2, 2};
            for (int n = 0; n < 7; n++) {
                Edge.is("reign(2, " + n + ")", x.reign(2, n), two[n]);
                Edge.is("reign(1, " + n + ")", x.reign(1, n), one[n]);
            }
            Edge.is("always", Due.of(STILL).reign(1, 9_999), 10_000);
            Edge.is("never", Due.of(STILL).reign(0, 9_999), 0);
        });
        Edge.of(31, "in the TAIL once, in the ROUND each time", () -> {
            SwivelBoard x = Due.of("board 6;member 0 faces 1;goes:aim;");
            Edge.is("1 in the tail", x.reign(1, 9_999), 1);
            Edge.is("2 at 1, 3 .. 9999", x.reign(2, 9_999), 5000);
            Edge.is("4 at 2, 4 .. 9998", x.reign(4, 9_999), 4999);
        });
    }

    private static void first() {
        Edge.of(32, "no such MEMBER", () -> {
            SwivelBoard x = Due.of(WHEEL);
            for (int m : FAR) {
                Edge.fails("first(" + m + ")", Due.NO_ELEMENT, () -> x.first(m));
            }
        });
        Edge.of(32, "0: now", () -> {
            Edge.is("first(2)", Due.of(WHEEL).first(2), 0);
            Edge.is("first(1)", Due.of(STILL).first(1), 0);
        });
        Edge.of(32, "NONE: never", () -> {
            Edge.is("first(0)", Due.of(WHEEL).first(0), -1);
            Edge.is("nothing turns", Due.of(STILL).first(0), -1);
            Edge.is("all look out", Due.of("board 2;").first(1), -1);
        });
        Edge.of(32, "the last of the ROUND", () -> {
            Edge.is("in 2 of 3", Due.of(WHEEL).first(1), 2);
            SwivelBoard x = Due.of("board 6;member 0 faces 2;member 1 stuck;member 2 stuck;member 3 stuck;"
                + "member 4 stuck;member 5 stuck;goes:1;");
            Edge.is("in 5 of 6", x.first(1), 5);
            Edge.is("the last of a round behind a tail", Due.of("board 6;member 0 faces 1;goes:aim;").first(4), 2);
        });
        Edge.of(32, "in the TAIL alone", () -> {
            // 0's aims are 1, 2, 0, 0 ..
            SwivelBoard x = Due.of("board 4;member 0 faces 1;goes:aim;");
            Edge.is("2 in 1", x.first(2), 1);
            Edge.is("3 never", x.first(3), -1);
        });
    }

    private static final int[] WEIGHT = {3, 1, 8, 2, 6, 2};

    /** Who has most votes by these aims, and each one's votes. */
    private static int rule(int[] aims, int[] votes) {
        int best = -1;
        for (int m = 0; m < 6; m++) {
            votes[m] = 0;
            for (int i = 0; i < 6; i++) {
                if (aims[i] != 0 && (i + aims[i]) % 6 == m) {
                    votes[m] += WEIGHT[i];
                }
            }
            if (votes[m] > 0 && (best < 0 || votes[m] > votes[best])) {
                best = m;
            }
        }
        return best;
    }

    /** A tail of 7 and a round of 1704, gone through minute by minute. */
    private static void longCourse() {
        String text = "board 6;member 0 faces 4 weight 3;member 1 faces 4 weight 1;member 2 faces 3 weight 8;"
            + "member 3 faces 5 weight 2;member 4 faces 1 weight 6;member 5 faces 4 weight 2;goes:who*11+votes+5;";
        int[] aims = {4, 4, 3, 5, 1, 4};
        int[] votes = new int[6];
        int[] chairs = new int[100_000];
        int[] thirds = new int[100_000];
        for (int n = 0; n < 100_000; n++) {
            chairs[n] = rule(aims, votes);
            thirds[n] = aims[3];
            for (int m = 0; m < 6; m++) {
                aims[m] = (aims[m] + m * 11 + votes[m] + 5) % 6;
            }
        }
        int[] when = {0, 1, 6, 7, 8, 1703, 1704, 1710, 1711, 1712, 9_999, 50_000, 99_998, 99_999};
        Edge.of(28, "a long TAIL and ROUND", () -> {
            Edge.is("settles(0)", Due.of(text).settles(0), 7);
            Edge.is("settles(1)", Due.of(text).settles(1), 1704);
        });
        Edge.of(29, "far ahead", () -> {
            for (int n : when) {
                Edge.is("chairIn(" + n + ")", Due.of(text).chairIn(n), chairs[n]);
            }
        });
        Edge.of(30, "far ahead", () -> {
            for (int n : when) {
                Edge.is("aimIn(3, " + n + ")", Due.of(text).aimIn(3, n), thirds[n]);
            }
        });
        Edge.of(31, "through TAIL and ROUND", () -> {
            for (int m = 0; m < 6; m++) {
                for (int n = 0; n <= 9_999; n += n < 12 || n > 1700 && n < 1720 ? 1 : n + 1693 < 1720 ? 1693 : 2759) {
                    int sum = 0;
                    for (int i = 0; i <= n; i++) {
                        sum += chairs[i] == m ? 1 : 0;
                    }
                    Edge.is("reign(" + m + ", " + n + ")", Due.of(text).reign(m, n), sum);
                }
            }
        });
        Edge.of(32, "through TAIL and ROUND", () -> {
            for (int m = 0; m < 6; m++) {
                int due = 0;
                while (due < 9_999 && chairs[due] != m) {
                    due++;
                }
                Edge.is("first(" + m + ")", Due.of(text).first(m), chairs[due] == m ? due : -1);
            }
        });
    }

    private static void seen() {
        Edge.of(33, "no such TRAY; it is MISSING; as cheapest()", () -> {
            SwivelBoard x = Due.of("board 3;");
            for (int t : NO_TRAY) {
                Edge.fails("seen(" + t + ")", Due.NO_ELEMENT, () -> x.seen(t));
            }
            for (int t = 0; t < 4; t++) {
                int tray = t;
                Edge.fails("seen(" + t + ")", Due.STATE, () -> x.seen(tray));
            }
            for (int many = 0; many <= 30; many++) {
                if (many != 3) {
                    x.tray(0, 0, many);
                    Edge.fails("seen of " + many, Due.ARGUMENT, () -> x.seen(0));
                }
            }
            Due.row(x, 0, 0, 0, 3, 0);
            Edge.fails("no AIM", Due.ARGUMENT, () -> x.seen(0));
            Due.row(x, 0, 0, -2, 0, 0);
            Edge.fails("no AIM", Due.ARGUMENT, () -> x.seen(0));
        });
        Edge.of(33, "none, one, all of 1 to MEMBERS less 1 NOTCHES", () -> {
            int[] all = {0, 0, 2, 6, 12, 20, 30};
            for (int n = 2; n <= 6; n++) {
                SwivelBoard x = Due.of("board " + n + ";");
                x.tray(0, 0, n);
                Edge.is("none leaves all as it is, of " + n, x.seen(0), 0);
                x.write(0, n - 1, n - 1);
                Edge.is("one of " + n, x.seen(0), 1);
                for (int i = 0; i < n; i++) {
                    x.write(0, i, -1);
                }
                Edge.is("all of " + n, x.seen(0), all[n]);
            }
        });
        Edge.of(33, "who is STUCK isn't TURNED", () -> {
            SwivelBoard x = Due.of("board 3;member 0 stuck;member 2 stuck;");
            Due.row(x, 0, 0, -1, -1, -1);
            Edge.is("seen(0)", x.seen(0), 2);
            x.stick(1);
            Edge.is("all are stuck", x.seen(0), 0);
        });
        Edge.of(33, "unlike TURNS behind which it looks so", () -> {
            SwivelBoard x = Due.of("board 3;drags:1=1;");
            Due.row(x, 0, 0, 2, 2, 2);
            Edge.is("seen(0)", x.seen(0), 3);
        });
    }

    private static void seenAt() {
        Edge.of(34, "no such TRAY; it is MISSING; k is below 0", () -> {
            SwivelBoard x = Due.of("board 3;");
            for (int t : NO_TRAY) {
                Edge.fails("seenAt(" + t + ", 0)", Due.NO_ELEMENT, () -> x.seenAt(t, 0));
                Edge.fails("seenAt(" + t + ", -1)", Due.NO_ELEMENT, () -> x.seenAt(t, -1));
            }
            for (int t = 0; t < 4; t++) {
                int tray = t;
                Edge.fails("seenAt(" + t + ", -1)", Due.STATE, () -> x.seenAt(tray, -1));
            }
            Due.row(x, 3, 0, -1, -1, -1);
            Edge.fails("seenAt(3, -1)", Due.ARGUMENT, () -> x.seenAt(3, -1));
            Edge.fails("seenAt(3, MIN)", Due.ARGUMENT, () -> x.seenAt(3, Integer.MIN_VALUE));
            x.tray(3, 0, 2);
            Edge.fails("not as many numbers", Due.ARGUMENT, () -> x.seenAt(3, 0));
            x.tray(3, 0, 4);
            Edge.fails("not as many numbers", Due.ARGUMENT, () -> x.seenAt(3, 0));
            Due.row(x, 3, 0, 0, 0, 3);
            Edge.fails("no AIM", Due.ARGUMENT, () -> x.seenAt(3, 0));
        });
        Edge.of(34, "0: the first; NONE: not so many", () -> {
            SwivelBoard x = Due.of("board 6;");
            Due.row(x, 0, 0, -1, -1, -1, -1, -1, -1);
            for (int k = 0; k < 30; k++) {
                Edge.is("seenAt(0, " + k + ")", x.seenAt(0, k), k / 5 * 10 + 1 + k % 5);
            }
            Edge.is("seenAt(0, 30)", x.seenAt(0, 30), -1);
            Edge.is("seenAt(0, 31)", x.seenAt(0, 31), -1);
            Edge.is("seenAt(0, MAX)", x.seenAt(0, Integer.MAX_VALUE), -1);
            Due.row(x, 0, 0, 0, 0, 0, 0, 0, 0);
            Edge.is("none", x.seenAt(0, 0), -1);
            Due.row(x, 0, 0, 0, 0, 0, 0, 0, 4);
            Edge.is("one", x.seenAt(0, 0), 54);
            Edge.is("one", x.seenAt(0, 1), -1);
        });
    }

    private static void ask() {
        Edge.of(35, "no such TRAY; it is MISSING; as cheapest()", () -> {
            SwivelBoard x = Due.of("board 3;");
            for (int t : NO_TRAY) {
                Edge.fails("ask(" + t + ")", Due.NO_ELEMENT, () -> x.ask(t));
            }
            for (int t = 0; t < 4; t++) {
                int tray = t;
                Edge.fails("ask(" + t + ")", Due.STATE, () -> x.ask(tray));
            }
            for (int many = 0; many <= 30; many++) {
                if (many != 3) {
                    x.tray(0, 0, many);
                    Edge.fails("ask of " + many, Due.ARGUMENT, () -> x.ask(0));
                }
            }
            Due.row(x, 0, 0, -1, 3, 0);
            Edge.fails("no AIM", Due.ARGUMENT, () -> x.ask(0));
        });
        Edge.of(35, "NONE: there are none", () -> {
            SwivelBoard x = Due.of("board 3;member 0 stuck;");
            Due.row(x, 0, 0, 1, -1, -1);
            Edge.is("no such TURNS", x.ask(0), -1);
            SwivelBoard y = Due.of("board 2;member 0 stuck;member 1 stuck;");
            Due.row(y, 0, 0, -1, -1);
            Edge.is("all are STUCK", y.ask(0), -1);
        });
        Edge.of(35, "NONE: all are seen", () -> {
            SwivelBoard x = Due.of("board 3;");
            Due.row(x, 0, 0, 1, 0, 0);
            Edge.is("there is one", x.seen(0), 1);
            Edge.is("ask(0)", x.ask(0), -1);
        });
        Edge.of(35, "whose AIM is any, the first of like ones", () -> {
            SwivelBoard x = Due.of("board 3;");
            Due.row(x, 0, 0, -1, -1, -1);
            Edge.is("all alike", x.ask(0), 0);
            Due.row(x, 0, 0, 0, -1, -1);
            Edge.is("two alike", x.ask(0), 1);
            Due.row(x, 0, 0, 0, 0, -1);
            Edge.is("the last one alone", x.ask(0), 2);
        });
        Edge.of(35, "one TURN alone: the first whose AIM is any", () -> {
            SwivelBoard x = Due.of("board 3;");
            Due.row(x, 0, 0, 1, -1, -1);
            Edge.is("seen(0)", x.seen(0), 1);
            Edge.is("ask(0)", x.ask(0), 1);
        });
        Edge.of(35, "the greatest number with one and the same AIM is least", () -> {
            // 0 and 1 drag 2: of six turns 2's aim is 1 and 2 in three each; 0's is 0 in four.
            SwivelBoard x = Due.of("board 3;drags:other=2;");
            Due.row(x, 0, 0, -1, -1, -1);
            Edge.is("ask(0)", x.ask(0), 2);
            // With the greatest aims of six, too.
            SwivelBoard y = Due.of("board 6;member 5 faces 5;drags:other=5;");
            Due.row(y, 0, 0, -1, -1, -1, -1, -1, -1);
            Edge.is("ask(0)", y.ask(0), 5);
            // 0's aim is 5 by five turns of 5, and 5's is 0 by five of 0.
            SwivelBoard z = Due.of("board 6;member 0 faces 5;member 1 stuck;member 2 stuck;member 3 stuck;member 4 stuck;");
            Due.row(z, 0, 0, -1, -1, -1, -1, -1, -1);
            Edge.is("both alike", z.ask(0), 0);
            SwivelBoard w = Due.of("board 6;member 5 faces 5;member 1 stuck;member 2 stuck;member 3 stuck;member 4 stuck;");
            Due.row(w, 0, 0, -1, -1, -1, -1, -1, -1);
            Edge.is("both alike", w.ask(0), 0);
        });
    }

    private static void odds(SwivelBoard x, int m, int n, int above, int below) {
        Edge.is("chance(" + m + ", " + n + ", 0)", x.chance(m, n, 0), above);
        Edge.is("chance(" + m + ", " + n + ", 1)", x.chance(m, n, 1), below);
    }

    private static void chance() {
        Edge.of(36, "no such MEMBER, ahead of n and what", () -> {
            SwivelBoard x = Due.of("board 3;");
            for (int m : FAR) {
                Edge.fails("chance(" + m + ", 0, 0)", Due.NO_ELEMENT, () -> x.chance(m, 0, 0));
                Edge.fails("chance(" + m + ", -1, 2)", Due.NO_ELEMENT, () -> x.chance(m, -1, 2));
            }
        });
        Edge.of(36, "n 0 to 6, another what", () -> {
            SwivelBoard x = Due.of("board 3;");
            int[] wrong = {-1, 7, 8, Integer.MIN_VALUE, Integer.MAX_VALUE};
            for (int n : wrong) {
                Edge.fails("chance(0, " + n + ", 0)", Due.ARGUMENT, () -> x.chance(0, n, 0));
            }
            int[] others = {-1, 2, Integer.MIN_VALUE, Integer.MAX_VALUE};
            for (int what : others) {
                Edge.fails("chance(0, 0, " + what + ")", Due.ARGUMENT, () -> x.chance(0, 0, what));
            }
        });
        Edge.of(36, "n is 0: as it is", () -> {
            odds(Due.of(STILL), 1, 0, 1, 1);
            odds(Due.of(STILL), 0, 0, 0, 1);
            odds(Due.of("board 6;"), 0, 0, 0, 1);
        });
        Edge.of(36, "if all are STUCK: as it is", () -> {
            SwivelBoard x = Due.of("board 2;member 0 faces 1 stuck;member 1 stuck;");
            for (int n = 0; n <= 6; n++) {
                odds(x, 1, n, 1, 1);
                odds(x, 0, n, 0, 1);
            }
        });
        Edge.of(36, "one isn't STUCK: sure", () -> {
            SwivelBoard x = Due.of("board 6;member 0 faces 1;member 1 stuck;member 2 stuck;member 3 stuck;member 4 stuck;"
                + "member 5 stuck;");
            for (int n = 0; n <= 6; n++) {
                for (int m = 0; m < 6; m++) {
                    odds(x, m, n, m != 0 && m == (1 + n) % 6 ? 1 : 0, 1);
                }
            }
        });
    }

    private static void chanceTerms() {
        Edge.of(36, "in lowest terms; n is 6 of six", () -> {
            // 0, who weighs 9, is never turned in 5 to the 6th of 6 to the 6th, and six times in one.
            SwivelBoard x = Due.of("board 6;member 0 faces 1 weight 9;");
            odds(x, 1, 6, 7813, 23328);
            // Once in 6 by 3125; and five times, so that it looks out, with 1 turned to 2, in 6.
            odds(x, 2, 6, 521, 1296);
            odds(x, 1, 1, 5, 6);
            odds(x, 2, 1, 1, 6);
        });
        Edge.of(36, "none: 0 of 1", () -> odds(Due.of("board 6;member 0 faces 1 weight 9;"), 0, 1, 0, 1));
        Edge.of(36, "sure: 1 of 1", () -> odds(Due.of("board 3;member 0 faces 1 weight 9 stuck;"), 1, 6, 1, 1));
        Edge.of(36, "who is TURNED drags others", () -> {
            // 0 faces 1: by each of both it looks out and the other faces 0; by two 1 again.
            SwivelBoard x = Due.of("board 2;member 0 faces 1;drags:1=1;");
            odds(x, 0, 1, 1, 1);
            odds(x, 1, 6, 1, 1);
            SwivelBoard y = Due.of("board 2;drags:who=0;");
            // By 0 both face each other, by 1 1 faces 0: 0's either way.
            odds(y, 0, 1, 1, 1);
            // 00 nobody's, 01 and 10 1's, 11 nobody's.
            odds(y, 1, 2, 1, 2);
        });
        Edge.of(36, "who is STUCK is never TURNED", () -> {
            SwivelBoard x = Due.of("board 3;member 0 faces 1 weight 5;member 1 stuck;");
            odds(x, 1, 1, 1, 2);
            odds(x, 1, 2, 1, 4);
            // By 0 0 turns to 2 once of 01 and 10.
            odds(x, 2, 2, 1, 2);
        });
    }

    private static void likeliest() {
        Edge.of(37, "n (0 to 6). IllegalArgumentException: n", () -> {
            SwivelBoard x = Due.of("board 3;");
            int[] wrong = {-1, 7, 8, Integer.MIN_VALUE, Integer.MAX_VALUE};
            for (int n : wrong) {
                Edge.fails("likeliest(" + n + ")", Due.ARGUMENT, () -> x.likeliest(n));
            }
            SwivelBoard y = Due.of("board 6;member 0 faces 1 weight 9;");
            Edge.is("likeliest(0)", y.likeliest(0), 1);
            // 0 turned once in 18,750 of 46,656, never in 15,625.
            Edge.is("likeliest(6)", y.likeliest(6), 2);
        });
        Edge.of(37, "NONE: nobody can have", () -> {
            Edge.is("all look out", Due.of("board 3;").likeliest(0), -1);
            Edge.is("all are stuck", Due.of("board 2;member 0 stuck;member 1 stuck;").likeliest(6), -1);
            Edge.is("it looks out then", Due.of("board 2;member 1 stuck;").likeliest(2), -1);
        });
        Edge.of(37, "the first of like ones", () -> {
            Edge.is("0 and 1 of two", Due.of("board 2;").likeliest(1), 0);
            // By 1's notch it is 2's, by 2's 0's.
            Edge.is("0 and 2", Due.of("board 3;member 0 stuck;").likeliest(1), 0);
        });
        Edge.of(37, "the last", () ->
            Edge.is("likeliest(1)", Due.of("board 6;member 0 faces 5 weight 9 stuck;").likeliest(1), 5));
    }
}
