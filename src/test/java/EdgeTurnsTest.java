/** Promises 17 to 27 at their boundaries: what can be had by turns, and by none. */
public final class EdgeTurnsTest {
    private static final int[] FAR = {-1, 3, 4, 6, 31, 32, Integer.MIN_VALUE, Integer.MAX_VALUE};
    private static final int[] NO_TRAY = {-1, 4, 5, Integer.MIN_VALUE, Integer.MAX_VALUE};
    private static final int[] NO_PATH = {-1, 1, 2, 9, 16, 20, 26, Integer.MIN_VALUE, Integer.MAX_VALUE};
    private static final String STUCK = "board 3;member 0 faces 1 stuck;member 1 stuck;member 2 stuck;";
    private static final String TOGETHER = "board 6;drags:1=1;";

    public static void main(String[] args) {
        cheapestThrows();
        cheapestLook();
        cheapest();
        cheapestOfLikeOnes();
        ways();
        throne();
        looks();
        idle();
        power();
        strongest();
        motion();
        helps();
        helpsOfLikeOnes();
        vetoes();
        knees();
        kneesOfLikeOnes();
        withoutText();
        askedAnew();
        Edge.end(17, 27);
    }

    private static void path(SwivelBoard x, int cost, int... notches) {
        Edge.is("cheapest(0, 0)", x.cheapest(0, 0), cost);
        for (int m = 0; m < 6; m++) {
            Edge.is("cheapest(0, " + (10 + m) + ")", x.cheapest(0, 10 + m), m < notches.length ? notches[m] : -1);
        }
    }

    private static void cheapestThrows() {
        Edge.of(17, "no such TRAY", () -> {
            SwivelBoard x = Due.of("board 3;");
            for (int t : NO_TRAY) {
                Edge.fails("cheapest(" + t + ", 0)", Due.NO_ELEMENT, () -> x.cheapest(t, 0));
                Edge.fails("cheapest(" + t + ", 1)", Due.NO_ELEMENT, () -> x.cheapest(t, 1));
            }
        });
        Edge.of(17, "it is MISSING", () -> {
            SwivelBoard x = Due.of("board 3;");
            for (int t = 0; t < 4; t++) {
                int tray = t;
                Edge.fails("cheapest(" + t + ", 0)", Due.STATE, () -> x.cheapest(tray, 0));
                Edge.fails("cheapest(" + t + ", 1)", Due.STATE, () -> x.cheapest(tray, 1));
            }
        });
        Edge.of(17, "another what (10 to 15)", () -> {
            SwivelBoard x = Due.of("board 3;");
            x.tray(3, 0, 3);
            for (int what : NO_PATH) {
                Edge.fails("cheapest(3, " + what + ")", Due.ARGUMENT, () -> x.cheapest(3, what));
            }
            Edge.is("cheapest(3, 0)", x.cheapest(3, 0), 0);
            Edge.is("cheapest(3, 10)", x.cheapest(3, 10), 0);
            Edge.is("cheapest(3, 15)", x.cheapest(3, 15), -1);
        });
    }

    private static void cheapestLook() {
        Edge.of(17, "not as many numbers as MEMBERS", () -> {
            for (int n = 2; n <= 6; n++) {
                SwivelBoard x = Due.of("board " + n + ";");
                for (int many = 0; many <= 30; many++) {
                    x.tray(1, 0, many);
                    if (many == n) {
                        Edge.is("cheapest of " + many, x.cheapest(1, 0), 0);
                    } else {
                        Edge.fails("cheapest of " + many, Due.ARGUMENT, () -> x.cheapest(1, 0));
                        Edge.fails("ways of " + many, Due.ARGUMENT, () -> x.ways(1));
                    }
                }
            }
        });
        Edge.of(17, "one is no AIM nor NONE", () -> {
            for (int n = 2; n <= 6; n++) {
                long[] wrong = {n, n + 1, -2, -3, 1L << 32, (1L << 32) - 1, -(1L << 32), Long.MIN_VALUE, Long.MAX_VALUE};
                for (int place = 0; place < n; place += n - 1) {
                    SwivelBoard x = Due.of("board " + n + ";");
                    x.tray(2, 3, n);
                    for (long v : wrong) {
                        x.write(2, place, v);
                        Edge.fails("cheapest with " + v, Due.ARGUMENT, () -> x.cheapest(2, 0));
                        Edge.fails("ways with " + v, Due.ARGUMENT, () -> x.ways(2));
                    }
                    x.write(2, place, n - 1);
                    Edge.is("the greatest AIM", x.cheapest(2, 0), n - 1);
                    x.write(2, place, -1);
                    Edge.is("NONE", x.cheapest(2, 0), 0);
                    x.write(2, place, 0);
                    Edge.is("the least AIM", x.cheapest(2, 0), 0);
                }
            }
        });
        Edge.of(17, "NONE: any, in a row of each sort", () -> {
            SwivelBoard x = Due.of("board 3;member 2 faces 1;");
            long[] none = {255, 65535, (1L << 32) - 1, -1};
            for (int sort = 0; sort < 4; sort++) {
                Due.row(x, 0, sort, 1, none[sort], 0);
                path(x, 3, 1, 0, 2);
            }
        });
    }

    private static void cheapest() {
        Edge.of(17, "NONE: no such MEMBER", () -> {
            for (int n = 2; n <= 6; n++) {
                SwivelBoard x = Due.of("board " + n + ";");
                x.tray(0, 0, n);
                for (int m = 0; m < 6; m++) {
                    Edge.is("cheapest(0, " + (10 + m) + ") of " + n, x.cheapest(0, 10 + m), m < n ? 0 : -1);
                }
            }
        });
        Edge.of(17, "NONE: there are none", () -> {
            SwivelBoard x = Due.of(STUCK);
            Due.row(x, 0, 0, 1, 0, 1);
            path(x, -1);
            Edge.is("ways(0)", x.ways(0), 0);
            SwivelBoard y = Due.of(TOGETHER);
            Due.row(y, 0, 0, 1, 1, 1, 1, 1, 2);
            path(y, -1);
        });
        Edge.of(17, "all is so: none is TURNED", () -> {
            SwivelBoard x = Due.of(STUCK);
            Due.row(x, 0, 0, 1, 0, 0);
            path(x, 0, 0, 0, 0);
            Due.row(x, 0, 0, -1, -1, -1);
            path(x, 0, 0, 0, 0);
        });
        Edge.of(17, "0 to MEMBERS less 1 NOTCHES of each, the dearest", () -> {
            SwivelBoard x = Due.of("board 6;costs:99;");
            Due.row(x, 0, 0, 5, 5, 5, 5, 5, 5);
            path(x, 2970, 5, 5, 5, 5, 5, 5);
        });
        Edge.of(17, "round the ring's end: the AIM wraps", () -> {
            SwivelBoard x = Due.of("board 6;member 0 faces 5;member 5 faces 3;");
            Due.row(x, 0, 0, 4, -1, -1, -1, -1, 2);
            path(x, 10, 5, 0, 0, 0, 0, 5);
        });
        Edge.of(17, "who is STUCK is neither TURNED nor dragged", () -> {
            SwivelBoard x = Due.of("board 3;member 1 faces 1 stuck;drags:1=1;");
            Due.row(x, 0, 0, 2, 1, 2);
            path(x, 2, 0, 0, 2);
            Due.row(x, 0, 0, 2, 0, 2);
            path(x, -1);
        });
    }

    private static void cheapestOfLikeOnes() {
        Edge.of(17, "the least COST, be it more NOTCHES", () -> {
            // 2's own notch costs 9; 0 and 1 drag it for 2 and 3.
            SwivelBoard x = Due.of("board 3;drags:other=2;costs:2+who*who*2-who;");
            Due.row(x, 0, 0, -1, -1, 1);
            path(x, 2, 1, 0, 0);
            Due.row(x, 0, 0, 0, -1, 1);
            path(x, 3, 0, 1, 0);
            Due.row(x, 0, 0, 0, 0, 1);
            path(x, 8, 0, 0, 1);
        });
        Edge.of(17, "of like ones the first by NOTCHES, MEMBER by MEMBER", () -> {
            SwivelBoard x = Due.of("board 4;drags:1=1;");
            Due.row(x, 0, 0, 3, 3, 3, 3);
            path(x, 3, 0, 0, 0, 3);
            Due.row(x, 0, 0, 1, 1, 1, 1);
            path(x, 1, 0, 0, 0, 1);
            SwivelBoard y = Due.of("board 4;drags:1=1;costs:1+who;");
            Due.row(y, 0, 0, 3, -1, -1, -1);
            path(y, 3, 3, 0, 0, 0);
            SwivelBoard z = Due.of("board 3;member 2 stuck;drags:1=1;");
            Due.row(z, 0, 0, 2, 2, 0);
            path(z, 2, 0, 2, 0);
        });
    }

    private static void ways() {
        Edge.of(18, "no such TRAY; it is MISSING", () -> {
            SwivelBoard x = Due.of("board 3;");
            for (int t : NO_TRAY) {
                Edge.fails("ways(" + t + ")", Due.NO_ELEMENT, () -> x.ways(t));
            }
            for (int t = 0; t < 4; t++) {
                int tray = t;
                Edge.fails("ways(" + t + ")", Due.STATE, () -> x.ways(tray));
            }
        });
        Edge.of(18, "how many: none, one, all", () -> {
            SwivelBoard x = Due.of("board 6;");
            Due.row(x, 0, 0, 1, 2, 3, 4, 5, 0);
            Edge.is("one", x.ways(0), 1);
            Due.row(x, 0, 0, -1, -1, -1, -1, -1, -1);
            Edge.is("all", x.ways(0), 46656);
            Due.row(x, 0, 0, -1, -1, 0, -1, -1, -1);
            Edge.is("a sixth", x.ways(0), 7776);
            SwivelBoard y = Due.of(STUCK);
            Due.row(y, 0, 0, 1, -1, -1);
            Edge.is("none TURNED is one", y.ways(0), 1);
            Due.row(y, 0, 0, 2, -1, -1);
            Edge.is("none", y.ways(0), 0);
        });
        Edge.of(18, "by NOTCHES, MEMBER by MEMBER: unlike ones to one LOOK", () -> {
            SwivelBoard x = Due.of(TOGETHER);
            Due.row(x, 0, 0, 5, -1, -1, -1, -1, 5);
            Edge.is("ways(0)", x.ways(0), 7776);
        });
    }

    private static void thrones(SwivelBoard x, int m, int cost, int... notches) {
        Edge.is("throne(" + m + ", 0)", x.throne(m, 0), cost);
        for (int i = 0; i < 6; i++) {
            Edge.is("throne(" + m + ", " + (10 + i) + ")", x.throne(m, 10 + i), i < notches.length ? notches[i] : -1);
        }
    }

    private static void throne() {
        Edge.of(19, "no such MEMBER, ahead of another what", () -> {
            SwivelBoard x = Due.of("board 3;");
            for (int m : FAR) {
                Edge.fails("throne(" + m + ", 0)", Due.NO_ELEMENT, () -> x.throne(m, 0));
                Edge.fails("throne(" + m + ", 1)", Due.NO_ELEMENT, () -> x.throne(m, 1));
            }
        });
        Edge.of(19, "another what", () -> {
            SwivelBoard x = Due.of("board 3;");
            for (int what : NO_PATH) {
                Edge.fails("throne(2, " + what + ")", Due.ARGUMENT, () -> x.throne(2, what));
            }
        });
        Edge.of(19, "NONE: there are none, no such MEMBER", () -> {
            thrones(Due.of(STUCK), 0, -1);
            thrones(Due.of(STUCK), 2, -1);
            thrones(Due.of("board 2;member 1 stuck;"), 0, -1);
        });
        Edge.of(19, "it has THE CHAIR: none is TURNED", () -> {
            thrones(Due.of(STUCK), 1, 0, 0, 0, 0);
            thrones(Due.of("board 2;member 0 faces 1;"), 1, 0, 0, 0);
        });
        Edge.of(19, "of like ones the first by NOTCHES", () -> {
            thrones(Due.of("board 6;"), 0, 1, 0, 0, 0, 0, 0, 1);
            thrones(Due.of("board 6;"), 5, 1, 0, 0, 0, 0, 1, 0);
            // 0 by 1 costs 2, 2 by 2 costs 2.
            thrones(Due.of("board 3;costs:2-who;"), 1, 2, 0, 0, 2);
        });
    }

    private static void looks() {
        Edge.of(20, "this one too: all are STUCK", () -> Edge.is("looks()", Due.of(STUCK).looks(), 1));
        Edge.of(20, "how many unlike LOOKS: all there are", () -> {
            int[] due = {0, 0, 4, 27, 256, 3125, 46656};
            for (int n = 2; n <= 6; n++) {
                Edge.is("looks() of " + n, Due.of("board " + n + ";").looks(), due[n]);
            }
        });
        Edge.of(20, "unlike ones: many TURNS to each", () -> {
            Edge.is("all drag all", Due.of(TOGETHER).looks(), 6);
            Edge.is("one isn't stuck", Due.of("board 6;member 0 stuck;member 1 stuck;member 2 stuck;member 3 stuck;"
                + "member 4 stuck;drags:1=1;").looks(), 6);
            Edge.is("the last one alone drags all", Due.of("board 3;drags:who=2;").looks(), 27);
            Edge.is("each of three drags the next", Due.of("board 3;drags:other=who+1 or other+2=who;").looks(), 27);
            Edge.is("each of two drags the other", Due.of("board 2;drags:apart=1;").looks(), 2);
        });
    }

    private static void idle() {
        Edge.of(21, "none at all is one", () -> {
            Edge.is("all stuck", Due.of(STUCK).idle(), 1);
            for (int n = 2; n <= 6; n++) {
                Edge.is("idle() of " + n, Due.of("board " + n + ";").idle(), 1);
            }
        });
        Edge.of(21, "how many leave all AIMS as they are", () -> {
            Edge.is("all drag all", Due.of(TOGETHER).idle(), 7776);
            Edge.is("whatever they are", Due.of("board 6;member 0 faces 5;member 3 faces 2;drags:1=1;").idle(), 7776);
            Edge.is("one isn't stuck", Due.of("board 6;member 0 stuck;member 1 stuck;member 2 stuck;member 3 stuck;"
                + "member 4 stuck;drags:1=1;").idle(), 1);
            Edge.is("two of them", Due.of("board 6;member 0 stuck;member 1 stuck;member 2 stuck;member 3 stuck;"
                + "drags:1=1;").idle(), 6);
        });
    }

    private static void power() {
        Edge.of(22, "no such MEMBER", () -> {
            SwivelBoard x = Due.of("board 3;");
            for (int m : FAR) {
                Edge.fails("power(" + m + ")", Due.NO_ELEMENT, () -> x.power(m));
            }
        });
        Edge.of(22, "in none, in each", () -> {
            SwivelBoard x = Due.of(STUCK);
            Edge.is("power(0)", x.power(0), 0);
            Edge.is("power(1)", x.power(1), 1);
            Edge.is("power(2)", x.power(2), 0);
            SwivelBoard y = Due.of("board 2;member 0 faces 1 weight 9 stuck;");
            Edge.is("in both", y.power(1), 2);
            Edge.is("in none", y.power(0), 0);
        });
        Edge.of(22, "LOOKS, not TURNS", () -> {
            // Looks 0 0 0 0 0 0 to 5 5 5 5 5 5: nobody's, then all alike, the first's.
            SwivelBoard x = Due.of(TOGETHER);
            Edge.is("power(0)", x.power(0), 5);
            for (int m = 1; m < 6; m++) {
                Edge.is("power(" + m + ")", x.power(m), 0);
            }
        });
        Edge.of(22, "in all LOOKS somebody has it but where all look OUT", () -> {
            int[] looks = {0, 0, 4, 27, 256, 3125, 46656};
            for (int n = 2; n <= 6; n++) {
                SwivelBoard x = Due.of("board " + n + ";member 1 weight 3;");
                int sum = 0;
                for (int m = 0; m < n; m++) {
                    sum += x.power(m);
                }
                Edge.is("together of " + n, sum, looks[n] - 1);
            }
        });
    }

    private static void strongest() {
        Edge.of(23, "the first of like ones", () -> {
            // Of four looks 1 0 is 1's, 0 1 and 1 1 are 0's.
            Edge.is("strongest()", Due.of("board 2;").strongest(), 0);
            Edge.is("1 and 2 once each", Due.of("board 3;member 1 stuck;member 2 stuck;").strongest(), 1);
            Edge.is("1 and 2 once each", Due.of("board 3;member 1 stuck;member 2 stuck;").power(2), 1);
        });
        Edge.of(23, "the last", () ->
            Edge.is("strongest()", Due.of("board 6;member 0 faces 5 weight 9 stuck;").strongest(), 5));
        Edge.of(23, "nobody has any", () ->
            Edge.is("strongest()", Due.of("board 3;member 0 stuck;member 1 stuck;member 2 stuck;").strongest(), 0));
    }

    private static void motion() {
        Edge.of(24, "no such MEMBER", () -> {
            SwivelBoard x = Due.of("board 3;");
            for (int m : FAR) {
                Edge.fails("motion(" + m + ")", Due.NO_ELEMENT, () -> x.motion(m));
            }
        });
        Edge.of(24, "NONE: it has", () -> {
            Edge.is("motion(1)", Due.of(STUCK).motion(1), -1);
            Edge.is("though another turn would keep it so", Due.of("board 3;member 0 faces 1;").motion(1), -1);
        });
        Edge.of(24, "NONE: none", () -> {
            Edge.is("all stuck", Due.of(STUCK).motion(0), -1);
            // Two turns would do, one doesn't: 9 against 5, and 10.
            SwivelBoard x = Due.of("board 4;member 0 faces 1 weight 9 stuck;member 1 weight 5;member 2 weight 5;member 3 stuck;");
            Edge.is("it takes two", x.motion(3), -1);
            Edge.is("it takes two", x.throne(3, 0), 3);
        });
        Edge.of(24, "the first TURN of one MEMBER, 1 to MEMBERS less 1 NOTCHES", () -> {
            SwivelBoard x = Due.of("board 6;");
            int[] due = {15, 1, 2, 3, 4, 5};
            for (int m = 0; m < 6; m++) {
                Edge.is("motion(" + m + ")", x.motion(m), due[m]);
            }
            SwivelBoard y = Due.of("board 6;member 0 stuck;member 1 stuck;member 2 stuck;member 3 stuck;member 4 stuck;");
            Edge.is("the last one, the most notches", y.motion(4), 55);
            Edge.is("not by itself", y.motion(5), -1);
        });
        Edge.of(24, "NONE: none of all thirty, nor of fewer behind thirty", () -> {
            // Nobody but 0 has votes to give that count, and 0 can't face itself.
            SwivelBoard x = Due.of("board 6;member 0 faces 1 weight 9;");
            Edge.is("motion(0)", x.motion(0), -1);
            Edge.is("motion(2)", x.motion(2), 1);
            for (int m = 0; m < 5; m++) {
                x.stick(m);
            }
            Edge.is("5 alone is TURNED", x.motion(2), -1);
            Edge.is("5 alone is TURNED", x.motion(0), -1);
        });
        Edge.of(24, "by who is dragged", () -> {
            SwivelBoard x = Due.of("board 3;member 2 faces 2 weight 9;drags:who=0 and other=2;");
            Edge.is("0 by 2 turns 2 to 0", x.motion(0), 2);
        });
    }

    private static void helps() {
        Edge.of(25, "no such MEMBER, ahead of another what", () -> {
            SwivelBoard x = Due.of("board 3;");
            for (int m : FAR) {
                Edge.fails("helps(" + m + ", 0)", Due.NO_ELEMENT, () -> x.helps(m, 0));
                Edge.fails("helps(" + m + ", 2)", Due.NO_ELEMENT, () -> x.helps(m, 2));
            }
        });
        Edge.of(25, "another what", () -> {
            SwivelBoard x = Due.of("board 3;");
            int[] others = {-1, 2, 10, Integer.MIN_VALUE, Integer.MAX_VALUE};
            for (int what : others) {
                Edge.fails("helps(0, " + what + ")", Due.ARGUMENT, () -> x.helps(0, what));
            }
        });
        Edge.of(25, "0: it has THE CHAIR", () -> {
            Edge.is("how many", Due.of(STUCK).helps(1, 0), 0);
            Edge.is("which", Due.of(STUCK).helps(1, 1), 0);
            Edge.is("how many", Due.of("board 3;member 0 faces 1;").helps(1, 0), 0);
        });
        Edge.of(25, "NONE: none do", () -> {
            Edge.is("how many", Due.of(STUCK).helps(0, 0), -1);
            Edge.is("which", Due.of(STUCK).helps(0, 1), -1);
            Edge.is("it can't face itself", Due.of("board 2;member 0 stuck;").helps(1, 0), -1);
        });
        Edge.of(25, "all others", () -> {
            // 5 has 7 by 0, who is stuck; for 4 the others have 2 each.
            SwivelBoard x = Due.of("board 6;member 0 faces 5 weight 7 stuck;member 1 weight 2;member 2 weight 2;"
                + "member 3 weight 2;member 5 weight 2;member 4 stuck;");
            Edge.is("eight against seven", x.helps(4, 0), 4);
            Edge.is("1, 2, 3 and 5", x.helps(4, 1), 46);
        });
    }

    private static void helpsOfLikeOnes() {
        Edge.of(25, "the fewest, be their set greater as bits", () -> {
            // Against 5, who is stuck and heavy: 1 and 2 do together, 3 does alone.
            SwivelBoard x = Due.of("board 6;member 0 weight 1;member 1 weight 3;member 2 weight 3;member 3 weight 6;"
                + "member 5 faces 3 weight 5 stuck;member 4 stuck;");
            Edge.is("how many", x.helps(4, 0), 1);
            Edge.is("which", x.helps(4, 1), 8);
        });
        Edge.of(25, "of like ones the least set as bits: of two each", () -> {
            // Ten against nine: 0 and 3, 1 and 2 have so many; 6 is less than 9.
            SwivelBoard x = Due.of("board 6;member 0 weight 1;member 1 weight 5;member 2 weight 5;member 3 weight 9;"
                + "member 4 stuck;member 5 faces 1 weight 9 stuck;");
            Edge.is("how many", x.helps(4, 0), 2);
            Edge.is("which", x.helps(4, 1), 6);
        });
        Edge.of(25, "of like ones the least set as bits: of one each", () -> {
            SwivelBoard x = Due.of("board 6;");
            int[] due = {2, 1, 1, 1, 1, 1};
            for (int m = 0; m < 6; m++) {
                Edge.is("helps(" + m + ", 1)", x.helps(m, 1), due[m]);
            }
        });
        Edge.of(25, "MEMBERS that aren't STUCK", () -> {
            SwivelBoard x = Due.of("board 3;member 0 stuck;member 1 stuck;");
            Edge.is("2 alone", x.helps(0, 1), 4);
            Edge.is("2 alone", x.helps(1, 1), 4);
            Edge.is("2 for itself", x.helps(2, 1), -1);
        });
        Edge.of(25, "by whose TURNS alone: others are dragged", () -> {
            // 1 has 1 by 3; 0 by 1 turns 1 to 0, and 2 as well.
            SwivelBoard x = Due.of("board 4;member 1 faces 2;member 2 faces 1;member 3 faces 2 weight 1 stuck;"
                + "drags:who=0 and other<3;");
            Edge.is("how many", x.helps(0, 0), 1);
            Edge.is("0 alone", x.helps(0, 1), 1);
        });
    }

    private static void vetoes() {
        Edge.of(26, "no such MEMBER", () -> {
            SwivelBoard x = Due.of("board 3;");
            for (int m : FAR) {
                Edge.fails("vetoes(" + m + ")", Due.NO_ELEMENT, () -> x.vetoes(m));
            }
        });
        Edge.of(26, "0: there are none anyhow", () -> {
            Edge.is("all stuck", Due.of(STUCK).vetoes(0), 0);
            Edge.is("it can't face itself", Due.of("board 2;member 0 stuck;").vetoes(1), 0);
        });
        Edge.of(26, "nobody: it has THE CHAIR, or others do", () -> {
            Edge.is("all stuck, it has", Due.of(STUCK).vetoes(1), 0);
            Edge.is("two could", Due.of("board 3;").vetoes(0), 0);
        });
        Edge.of(26, "one, all others, itself", () -> {
            Edge.is("the other one of two", Due.of("board 2;").vetoes(0), 2);
            Edge.is("the other one of two", Due.of("board 2;").vetoes(1), 1);
            Edge.is("three aren't enough", Due.of("board 6;member 0 faces 5 weight 4 stuck;member 4 stuck;member 5 stuck;")
                .vetoes(4), 0);
            // Four against 4 of 5 are enough for 4, who is the first of both; three aren't.
            Edge.is("all others", Due.of("board 6;member 0 faces 5 weight 4 stuck;member 4 stuck;").vetoes(4), 46);
            Edge.is("one of them may fail", Due.of("board 6;member 0 faces 5 weight 3 stuck;member 4 stuck;").vetoes(4), 0);
            // Only by its own turn 1 turns 0, which is heavy, to it.
            Edge.is("itself", Due.of("board 3;member 0 weight 9;member 2 faces 1 weight 2 stuck;drags:who=1 and other=0;")
                .vetoes(1), 1);
        });
        Edge.of(26, "were it STUCK it isn't dragged, either", () -> {
            SwivelBoard x = Due.of("board 4;member 3 faces 1 weight 9;member 0 stuck;member 2 stuck;"
                + "member 1 weight 1;drags:who=1;");
            // For 2 3 has to turn by 2 more; it can by itself and by 1.
            Edge.is("3 keeps 2 from it", x.vetoes(2), 8);
            Edge.is("it can be dragged there", x.helps(2, 1), 2);
        });
        Edge.of(26, "MEMBERS that aren't STUCK", () -> {
            SwivelBoard x = Due.of("board 3;member 1 stuck;");
            Edge.is("2 alone could", x.vetoes(0), 4);
            x.stick(1);
            Edge.is("1 could too", x.vetoes(0), 0);
        });
    }

    private static void knees() {
        Edge.of(27, "another what (10 to 15)", () -> {
            SwivelBoard x = Due.of("board 3;");
            int[] others = {-1, 2, 3, 9, 16, 17, Integer.MIN_VALUE, Integer.MAX_VALUE};
            for (int what : others) {
                Edge.fails("knees(" + what + ")", Due.ARGUMENT, () -> x.knees(what));
            }
        });
        Edge.of(27, "none at all: for nothing", () -> {
            SwivelBoard x = Due.of(STUCK);
            Edge.is("knees(0)", x.knees(0), 0);
            Edge.is("knees(1)", x.knees(1), 0);
            for (int m = 0; m < 6; m++) {
                Edge.is("knees(" + (10 + m) + ")", x.knees(10 + m), m < 3 ? 0 : -1);
            }
        });
        Edge.of(27, "the most: half the MEMBERS", () -> {
            for (int n = 2; n <= 6; n++) {
                SwivelBoard x = Due.of("board " + n + ";");
                Edge.is("knees(0) of " + n, x.knees(0), n / 2);
                Edge.is("knees(1) of " + n, x.knees(1), n / 2 * n);
            }
        });
        Edge.of(27, "NONE: no such MEMBER", () -> {
            for (int n = 2; n <= 6; n++) {
                SwivelBoard x = Due.of("board " + n + ";");
                for (int m = 0; m < 6; m++) {
                    Edge.is("knees(" + (10 + m) + ") of " + n, x.knees(10 + m) < 0 ? -1 : 0, m < n ? 0 : -1);
                }
            }
        });
        Edge.of(27, "they are so now", () -> {
            SwivelBoard x = Due.of("board 4;member 0 faces 2;member 2 faces 2;member 1 faces 2;member 3 faces 2;");
            Edge.is("knees(0)", x.knees(0), 2);
            Edge.is("knees(1)", x.knees(1), 0);
            Edge.is("knees(10)", x.knees(10), 0);
        });
    }

    private static void kneesOfLikeOnes() {
        Edge.of(27, "the most, be it dearer", () -> {
            // 0 and 3 are knee to knee now; two twos take more.
            SwivelBoard x = Due.of("board 4;member 0 faces 3;member 3 faces 1;costs:99;");
            Edge.is("knees(0)", x.knees(0), 2);
            Edge.is("knees(1)", x.knees(1), 396);
        });
        Edge.of(27, "of like ones the CHEAPEST, the first by NOTCHES", () -> {
            SwivelBoard x = Due.of("board 4;");
            int[] due = {1, 3, 1, 3};
            for (int m = 0; m < 4; m++) {
                Edge.is("knees(" + (10 + m) + ")", x.knees(10 + m), due[m]);
            }
            SwivelBoard y = Due.of("board 3;");
            int[] own = {0, 1, 2};
            for (int m = 0; m < 3; m++) {
                Edge.is("knees(" + (10 + m) + ")", y.knees(10 + m), own[m]);
            }
            Edge.is("the first of them", y.knees(1), 3);
        });
        Edge.of(27, "two who FACE each other, across the ring's seam too", () -> {
            Edge.is("0 and 5", Due.of("board 6;member 0 faces 5;member 5 faces 1;").count(4), 1);
            Edge.is("1 and 5", Due.of("board 6;member 1 faces 4;member 5 faces 2;").count(4), 1);
            Edge.is("not 0 and 5 but 0 and 1", Due.of("board 6;member 0 faces 1;member 5 faces 1;").count(4), 0);
            Edge.is("those who look out don't", Due.of("board 6;").count(4), 0);
        });
    }

    private static void withoutText() {
        Edge.of(20, "of a new object", () -> {
            Edge.is("looks()", new SwivelBoard().looks(), 4);
            Edge.is("idle()", new SwivelBoard().idle(), 1);
            Edge.is("power(0)", new SwivelBoard().power(0), 2);
            Edge.is("power(1)", new SwivelBoard().power(1), 1);
            Edge.is("strongest()", new SwivelBoard().strongest(), 0);
            Edge.is("throne(1, 0)", new SwivelBoard().throne(1, 0), 1);
            Edge.is("helps(1, 1)", new SwivelBoard().helps(1, 1), 1);
            Edge.is("vetoes(1)", new SwivelBoard().vetoes(1), 1);
            Edge.is("motion(1)", new SwivelBoard().motion(1), 1);
            Edge.is("knees(0)", new SwivelBoard().knees(0), 1);
            Edge.is("knees(1)", new SwivelBoard().knees(1), 2);
            SwivelBoard x = new SwivelBoard();
            x.tray(0, 0, 2);
            Edge.is("ways(0)", x.ways(0), 1);
            SwivelBoard y = new SwivelBoard();
            Due.row(y, 0, 0, -1, -1);
            Edge.is("ways(0) of any", y.ways(0), 4);
        });
    }

    /** What is kept of one question must not answer another. */
    private static void askedAnew() {
        Edge.of(17, "a told LOOK of 0s, or of any, behind another one", () -> {
            SwivelBoard x = Due.of("board 3;member 0 faces 1;");
            Due.row(x, 0, 0, 2, 2, 2);
            Due.row(x, 1, 0, 0, 0, 0);
            Due.row(x, 2, 0, -1, -1, -1);
            Edge.is("cheapest(0, 0)", x.cheapest(0, 0), 5);
            Edge.is("cheapest(1, 0)", x.cheapest(1, 0), 2);
            Edge.is("cheapest(2, 0)", x.cheapest(2, 0), 0);
            Edge.is("ways(2)", x.ways(2), 27);
            Edge.is("ways(1)", x.ways(1), 1);
        });
        Edge.of(26, "behind vetoes() all others answer as ahead of it", () -> {
            String text = "board 3;member 0 faces 1;member 1 faces 1;costs:2+who;";
            for (int m = 0; m < 3; m++) {
                SwivelBoard x = Due.of(text);
                SwivelBoard twin = Due.of(text);
                Due.row(x, 0, 0, 2, -1, 1);
                Due.row(twin, 0, 0, 2, -1, 1);
                for (int i = 0; i < 3; i++) {
                    x.vetoes(m);
                    Edge.is("cheapest", x.cheapest(0, 10 + i), twin.cheapest(0, 10 + i));
                    Edge.is("cheapest", x.cheapest(0, 0), twin.cheapest(0, 0));
                    x.vetoes(m);
                    Edge.is("throne", x.throne(i, 0), twin.throne(i, 0));
                    Edge.is("throne", x.throne(i, 12), twin.throne(i, 12));
                    Edge.is("helps", x.helps(i, 1), twin.helps(i, 1));
                    x.vetoes(m);
                    Edge.is("knees", x.knees(1), twin.knees(1));
                    Edge.is("knees", x.knees(10 + i), twin.knees(10 + i));
                    Edge.is("idle", x.idle(), 1);
                    x.vetoes(m);
                    Edge.is("looks", x.looks(), 27);
                    Edge.is("power", x.power(i), twin.power(i));
                }
            }
        });
        Edge.of(27, "fewer, or dearer, behind a DEED", () -> {
            SwivelBoard x = Due.of("board 4;member 0 faces 1;member 1 faces 3;");
            Edge.is("knees(0)", x.knees(0), 2);
            Edge.is("knees(1)", x.knees(1), 4);
            x.turn(0, 3);
            Edge.is("knees(1) then", x.knees(1), 5);
            x.stick(2);
            Edge.is("knees(0) then", x.knees(0), 1);
            Edge.is("knees(1) then", x.knees(1), 1);
        });
        Edge.of(20, "behind another board, and an IMAGE", () -> {
            SwivelBoard x = Due.of("board 3;");
            x.tray(0, 0, 2);
            x.image(0);
            Edge.is("looks()", x.looks(), 27);
            // By both others, whatever 2 does, and by one of them while all else look out.
            Edge.is("power(2)", x.power(2), 5);
            Edge.is("knees(1)", x.knees(1), 3);
            Due.load(x, "board 2;member 0 faces 1;");
            Edge.is("looks() of another", x.looks(), 4);
            Edge.is("power(1) of another", x.power(1), 1);
            Edge.is("knees(1) of another", x.knees(1), 1);
            Edge.is("cheapest(0, 0) of another", x.cheapest(0, 0), 1);
            x.restore(0);
            Edge.is("looks() of the image", x.looks(), 27);
            Edge.is("power(2) of the image", x.power(2), 5);
            Edge.is("knees(1) of the image", x.knees(1), 3);
        });
        Edge.of(17, "another told LOOK in the same TRAY", () -> {
            SwivelBoard x = Due.of("board 3;");
            Due.row(x, 0, 0, 1, 1, 1);
            Edge.is("cheapest(0, 0)", x.cheapest(0, 0), 3);
            x.write(0, 0, 2);
            Edge.is("cheapest(0, 0)", x.cheapest(0, 0), 4);
            x.write(0, 0, 0);
            Edge.is("cheapest(0, 0)", x.cheapest(0, 0), 2);
            x.write(0, 0, -1);
            Edge.is("ways(0)", x.ways(0), 3);
            Edge.is("idle()", x.idle(), 1);
            Edge.is("ways(0)", x.ways(0), 3);
        });
        Edge.of(18, "behind each DEED, and behind it is UNDONE", () -> {
            SwivelBoard x = Due.of("board 2;drags:weight>1;goes:1;");
            Due.row(x, 0, 0, 1, 0);
            Edge.is("ways(0)", x.ways(0), 1);
            x.weigh(0, 2);
            x.weigh(1, 2);
            Edge.is("behind weights", x.ways(0), 0);
            x.turn(0, 1);
            Edge.is("behind a turn", x.ways(0), 0);
            x.undo(3);
            Edge.is("undone", x.ways(0), 1);
            x.stick(0);
            Edge.is("behind sticking", x.ways(0), 0);
            x.undo(1);
            x.minutes(1);
            Edge.is("behind a minute", x.cheapest(0, 0), 1);
            Edge.is("behind a minute", x.cheapest(0, 11), 1);
        });
        Edge.of(19, "behind a DEED by perform() and session()", () -> {
            SwivelBoard x = Due.of("board 6;");
            Edge.is("throne(1, 0)", x.throne(1, 0), 1);
            Due.row(x, 0, 1, 1);
            x.perform(0);
            Edge.is("throne(1, 0)", x.throne(1, 0), 0);
            // By 4 MEMBER 0 is TURNED by 5.
            x.session(4, 1);
            Edge.is("throne(1, 0)", x.throne(1, 0), 1);
        });
    }
}
