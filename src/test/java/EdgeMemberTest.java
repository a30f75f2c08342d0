/** Promises 5 to 8 at their boundaries: members round the ring, the chair, who is dragged, how each goes. */
public final class EdgeMemberTest {
    private static final int[] FAR = {-1, 3, 4, 6, 31, 32, Integer.MIN_VALUE, Integer.MAX_VALUE};

    public static void main(String[] args) {
        memberThrows();
        ring();
        votes();
        price();
        chair();
        drags();
        goes();
        bounds();
        Edge.end(5, 8);
    }

    private static void memberThrows() {
        Edge.of(5, "NoSuchElementException: no such MEMBER (as everywhere)", () -> {
            SwivelBoard x = Due.of("board 3;");
            for (int m : FAR) {
                Edge.fails("member(" + m + ", 0)", Due.NO_ELEMENT, () -> x.member(m, 0));
            }
            for (int n = 2; n <= 6; n++) {
                int many = n;
                SwivelBoard y = Due.of("board " + n + ";");
                Edge.is("the last of " + n, y.member(n - 1, 2), 1);
                Edge.fails("one more than " + n, Due.NO_ELEMENT, () -> y.member(many, 2));
            }
        });
        Edge.of(5, "IllegalArgumentException: another what", () -> {
            SwivelBoard x = Due.of("board 3;");
            int[] others = {-1, 6, 10, Integer.MIN_VALUE, Integer.MAX_VALUE};
            for (int what : others) {
                Edge.fails("member(0, " + what + ")", Due.ARGUMENT, () -> x.member(0, what));
            }
        });
        Edge.of(5, "of several throws that one that is told first", () ->
            Edge.fails("member(2, 6)", Due.NO_ELEMENT, () -> new SwivelBoard().member(2, 6)));
    }

    private static void ring() {
        Edge.of(5, "FACES the one so many places on, round the ring (NONE: it looks OUT)", () -> {
            for (int n = 2; n <= 6; n++) {
                for (int aim = 0; aim < n; aim++) {
                    StringBuilder text = new StringBuilder("board " + n + ";");
                    for (int m = 0; m < n; m++) {
                        text.append("member ").append(m).append(" faces ").append(aim).append(";");
                    }
                    SwivelBoard x = Due.of(text.toString());
                    for (int m = 0; m < n; m++) {
                        Edge.is("member(" + m + ", 1) of " + text, x.member(m, 1), aim == 0 ? -1 : (m + aim) % n);
                    }
                    Edge.is("count(3) of " + text, x.count(3), aim == 0 ? (1 << n) - 1 : 0);
                }
            }
        });
        Edge.of(5, "1 if STUCK, else 0", () -> {
            SwivelBoard x = Due.of("board 6;member 0 stuck;member 5 stuck;");
            for (int m = 0; m < 6; m++) {
                Edge.is("member(" + m + ", 4)", x.member(m, 4), m == 0 || m == 5 ? 1 : 0);
            }
        });
    }

    private static void votes() {
        Edge.of(5, "VOTES: the WEIGHTS together of all who FACE it: none, one, five", () -> {
            SwivelBoard x = Due.of("board 6;member 1 faces 5 weight 9;member 2 faces 4 weight 9;"
                + "member 3 faces 3 weight 9;member 4 faces 2 weight 9;member 5 faces 1 weight 9;member 0 faces 3 weight 7;");
            int[] due = {45, 0, 0, 7, 0, 0};
            for (int m = 0; m < 6; m++) {
                Edge.is("member(" + m + ", 3)", x.member(m, 3), due[m]);
            }
            SwivelBoard y = Due.of("board 6;member 0 faces 5 weight 9;member 1 faces 4 weight 9;"
                + "member 2 faces 3 weight 9;member 3 faces 2 weight 9;member 4 faces 1 weight 9;");
            Edge.is("the last one's", y.member(5, 3), 45);
        });
        Edge.of(5, "VOTES of those who are STUCK, and of who is it, count too", () -> {
            SwivelBoard x = Due.of("board 3;member 0 faces 1 weight 4 stuck;member 1 faces 2 weight 2 stuck;");
            Edge.is("member(1, 3)", x.member(1, 3), 4);
            Edge.is("member(0, 3)", x.member(0, 3), 2);
        });
        Edge.of(5, "who looks OUT has no one's VOTES and gives none", () -> {
            SwivelBoard x = Due.of("board 2;member 0 weight 9;member 1 weight 9;");
            Edge.is("member(0, 3)", x.member(0, 3), 0);
            Edge.is("member(1, 3)", x.member(1, 3), 0);
        });
    }

    private static int costs(String law) {
        return Due.of("board 6;member 5 weight 9;costs:" + law + ";").member(5, 5);
    }

    private static void price() {
        Edge.of(5, "a NOTCH COSTS 1 at least", () -> {
            Edge.is("0", costs("0"), 1);
            Edge.is("1", costs("1"), 1);
            Edge.is("2", costs("2"), 2);
            Edge.is("0-1", costs("0-1"), 1);
            Edge.is("the least", costs("0-999*999*999"), 1);
        });
        Edge.of(5, "a NOTCH COSTS 99 at most", () -> {
            Edge.is("98", costs("98"), 98);
            Edge.is("99", costs("99"), 99);
            Edge.is("100", costs("100"), 99);
            Edge.is("the greatest", costs("999*999*999"), 99);
        });
        Edge.of(5, "a NOTCH COSTS 1 without a law", () ->
            Edge.is("member(0, 5)", Due.of("board 2;member 0 weight 9;drags:1=1;goes:5;").member(0, 5), 1));
        Edge.of(5, "who, weight: of who is TURNED, be it STUCK", () -> {
            SwivelBoard x = Due.of("board 6;member 5 weight 9 stuck;member 2 weight 3;costs:who*10+weight;");
            int[] due = {1, 11, 23, 31, 41, 59};
            for (int m = 0; m < 6; m++) {
                Edge.is("member(" + m + ", 5)", x.member(m, 5), due[m]);
            }
        });
    }

    private static void chair() {
        Edge.of(6, "NONE: nobody, if all look OUT", () -> {
            for (int n = 2; n <= 6; n++) {
                Edge.is("chair() of " + n, Due.of("board " + n + ";").chair(), -1);
            }
        });
        Edge.of(6, "more than 0: one VOTE is enough, for the last too", () -> {
            Edge.is("the first", Due.of("board 6;member 5 faces 1;").chair(), 0);
            Edge.is("the last", Due.of("board 6;member 0 faces 5;").chair(), 5);
        });
        Edge.of(6, "who has most VOTES, the first", () -> {
            Edge.is("two alike", Due.of("board 4;member 0 faces 3;member 3 faces 2;").chair(), 1);
            Edge.is("all alike", Due.of("board 3;member 0 faces 1;member 1 faces 1;member 2 faces 1;").chair(), 0);
            Edge.is("one more", Due.of("board 4;member 0 faces 3 weight 9;member 3 faces 2 weight 8;").chair(), 3);
            Edge.is("one less", Due.of("board 4;member 0 faces 3 weight 8;member 3 faces 2 weight 9;").chair(), 1);
            Edge.is("45", Due.of("board 6;member 0 faces 5 weight 9;member 1 faces 4 weight 9;member 2 faces 3 weight 9;"
                + "member 3 faces 2 weight 9;member 4 faces 1 weight 9;member 5 faces 1 weight 9;").chair(), 5);
        });
    }

    private static void drags() {
        Edge.of(7, "no such MEMBER", () -> {
            SwivelBoard x = Due.of("board 3;");
            for (int m : FAR) {
                Edge.fails("drags(" + m + ")", Due.NO_ELEMENT, () -> x.drags(m));
            }
            Edge.is("the last", x.drags(2), 4);
        });
        Edge.of(7, "itself too, without a law none but it", () -> {
            for (int m = 0; m < 6; m++) {
                Edge.is("drags(" + m + ")", Due.of("board 6;").drags(m), 1 << m);
                Edge.is("of a law that never holds", Due.of("board 6;drags:1=2;").drags(m), 1 << m);
                Edge.is("of a law that always holds", Due.of("board 6;drags:1=1;").drags(m), 63);
            }
        });
        Edge.of(7, "0: it is STUCK", () -> {
            SwivelBoard x = Due.of("board 3;member 1 stuck;drags:1=1;");
            Edge.is("drags(1)", x.drags(1), 0);
            x.stick(1);
            Edge.is("no more", x.drags(1), 7);
        });
        Edge.of(7, "each other one that isn't STUCK", () -> {
            SwivelBoard x = Due.of("board 4;member 1 stuck;member 3 stuck;drags:1=1;");
            Edge.is("drags(0)", x.drags(0), 5);
            Edge.is("drags(2)", x.drags(2), 5);
        });
        Edge.of(7, "the law tells of other ones alone, not of who is TURNED", () -> {
            SwivelBoard x = Due.of("board 3;drags:not other=who and apart>0 and other<9;");
            Edge.is("drags(1)", x.drags(1), 7);
            Edge.is("of a law that holds for itself alone", Due.of("board 3;drags:other=who;").drags(1), 2);
        });
        Edge.of(7, "apart: how many places round the ring, the shorter way", () -> {
            int[][] due = {{}, {}, {1}, {1, 1}, {1, 2, 1}, {1, 2, 2, 1}, {1, 2, 3, 2, 1}};
            for (int n = 2; n <= 6; n++) {
                for (int a = 0; a <= 4; a++) {
                    SwivelBoard x = Due.of("board " + n + ";drags:apart=" + a + ";");
                    for (int m = 0; m < n; m++) {
                        int bits = 1 << m;
                        for (int on = 1; on < n; on++) {
                            bits |= due[n][on - 1] == a ? 1 << (m + on) % n : 0;
                        }
                        Edge.is("drags(" + m + ") by apart=" + a + " of " + n, x.drags(m), bits);
                    }
                }
            }
        });
        Edge.of(7, "weight: of who is TURNED, not of the other one", () -> {
            SwivelBoard x = Due.of("board 3;member 0 weight 9;drags:weight>5;");
            Edge.is("drags(0)", x.drags(0), 7);
            Edge.is("drags(1)", x.drags(1), 2);
            x.weigh(0, 5);
            Edge.is("drags(0) then", x.drags(0), 1);
        });
        Edge.of(7, "who: who is TURNED, other: the other one", () -> {
            SwivelBoard x = Due.of("board 3;drags:who<other;");
            Edge.is("drags(0)", x.drags(0), 7);
            Edge.is("drags(1)", x.drags(1), 6);
            Edge.is("drags(2)", x.drags(2), 4);
        });
    }

    private static void goes() {
        Edge.of(8, "no such MEMBER", () -> {
            SwivelBoard x = Due.of("board 3;goes:1;");
            for (int m : FAR) {
                Edge.fails("goes(" + m + ")", Due.NO_ELEMENT, () -> x.goes(m));
            }
            Edge.is("the last", x.goes(2), 1);
        });
        Edge.of(8, "without a law: 0", () -> {
            SwivelBoard x = Due.of("board 3;member 0 faces 1;drags:1=1;costs:5;");
            Edge.is("goes(0)", x.goes(0), 0);
            Edge.is("goes(1)", x.goes(1), 0);
        });
        Edge.of(8, "modulo MEMBERS, from 0 on", () -> {
            for (int n = 2; n <= 6; n++) {
                for (int k = 0; k <= 13; k++) {
                    Edge.is(k + " of " + n, Due.of("board " + n + ";goes:" + k + ";").goes(0), k % n);
                    Edge.is("-" + k + " of " + n, Due.of("board " + n + ";goes:0-" + k + ";").goes(0), (60 - k) % n);
                }
            }
            Edge.is("1000000 of 6", Due.of("board 6;goes:999*999*999;").goes(0), 4);
            Edge.is("-1000000 of 6", Due.of("board 6;goes:0-999*999*999;").goes(0), 2);
        });
        Edge.of(8, "who isn't STUCK turns, who is doesn't", () -> {
            SwivelBoard x = Due.of("board 3;member 1 stuck;goes:2;");
            Edge.is("goes(0)", x.goes(0), 2);
            Edge.is("goes(1)", x.goes(1), 0);
        });
        Edge.of(8, "aim: its AIM, votes: its VOTES, as they are now", () -> {
            SwivelBoard x = Due.of("board 6;member 0 faces 5 weight 4;member 2 faces 3;goes:aim;");
            Edge.is("goes(0)", x.goes(0), 5);
            x.turn(0, 1);
            Edge.is("goes(0) then", x.goes(0), 0);
            SwivelBoard y = Due.of("board 6;member 0 faces 5 weight 4;member 2 faces 3;goes:votes;");
            Edge.is("goes(5)", y.goes(5), 5);
            Edge.is("goes(0)", y.goes(0), 0);
            y.weigh(0, 9);
            Edge.is("goes(5) of 10", y.goes(5), 4);
        });
        Edge.of(8, "who, weight: its", () -> {
            SwivelBoard x = Due.of("board 6;member 3 weight 2;goes:who*weight;");
            int[] due = {0, 1, 2, 0, 4, 5};
            for (int m = 0; m < 6; m++) {
                Edge.is("goes(" + m + ")", x.goes(m), due[m]);
            }
        });
    }

    /** 500*200*10 is the bound, and 999*999 is 1999 less than it. */
    private static void bounds() {
        String down = "-999*999-999-950";
        String up = "+999*999+999+999+51";
        Edge.of(5, "each * is kept to 1,000,000", () -> {
            Edge.is("just so", costs("500*200*10" + down), 50);
            Edge.is("more", costs("999*999*2" + down), 50);
            Edge.is("two great ones", costs("(999*999)*(999*999)" + down), 50);
            Edge.is("two negative ones", costs("(0-999*999)*(0-999*999)" + down), 50);
        });
        Edge.of(5, "each + is kept to 1,000,000", () -> {
            Edge.is("one less", costs("(500*200*10-1)+0" + down), 49);
            Edge.is("just so", costs("(500*200*10-1)+1" + down), 50);
            Edge.is("one more", costs("500*200*10+1" + down), 50);
            Edge.is("twice as much", costs("500*200*10+500*200*10" + down), 50);
        });
        Edge.of(5, "each - is kept to 1,000,000", () -> {
            Edge.is("one more", costs("500*200*10-(0-1)" + down), 50);
            Edge.is("twice as much", costs("500*200*10-(0-500*200*10)" + down), 50);
        });
        Edge.of(5, "each * is kept from -1,000,000", () -> {
            Edge.is("just so", costs("(0-500)*200*10" + up), 50);
            Edge.is("less", costs("(0-999)*999*2" + up), 50);
            Edge.is("two great ones", costs("(0-999*999)*(999*999)" + up), 50);
        });
        Edge.of(5, "each + is kept from -1,000,000", () -> {
            Edge.is("one less", costs("(0-500)*200*10+(0-1)" + up), 50);
            Edge.is("twice as little", costs("(0-500)*200*10+(0-500)*200*10" + up), 50);
        });
        Edge.of(5, "each - is kept from -1,000,000", () -> {
            Edge.is("one more", costs("((0-500)*200*10+1)-0" + up), 51);
            Edge.is("one less", costs("(0-500)*200*10-1" + up), 50);
            Edge.is("twice as little", costs("(0-500)*200*10-500*200*10" + up), 50);
        });
        Edge.of(8, "each + - * is kept, then modulo MEMBERS", () -> {
            Edge.is("1000000 modulo 3", Due.of("board 3;goes:999*999*2;").goes(0), 1);
            Edge.is("-1000000 modulo 3", Due.of("board 3;goes:0-999*999*2;").goes(0), 2);
        });
        Edge.of(7, "each + - * is kept, then compared", () -> {
            Edge.is("both at the bound", Due.of("board 2;drags:999*999*2=999*999*3;").drags(0), 3);
            Edge.is("both at the bound", Due.of("board 2;drags:999*999*2<999*999*3;").drags(0), 1);
            Edge.is("from below", Due.of("board 2;drags:0-999*999*3<0-999*999*2;").drags(0), 1);
        });
    }
}
