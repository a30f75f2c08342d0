/** Promises 1 to 8: the board, its text and its faults. Answers are reckoned by hand. */
public final class BoardTest {
    /** Aims 2 3 0 1, weights 1 2 1 5, the last is stuck; each drags the next; who has the chair: 0, by 7 votes. */
    private static final String FOUR = "board 4;member 0 faces 2;member 1 faces 3 weight 2;"
        + "member 3 faces 1 weight 5 stuck;drags:other=who+1 or other+3=who;costs:weight*3;goes:aim+1;";

    public static void main(String[] args) {
        fresh();
        feed();
        board();
        faults();
        depth();
        laws();
        bounds();
        member();
        chair();
        drags();
        goes();
        Due.end();
    }

    private static void fresh() {
        SwivelBoard x = new SwivelBoard();
        Due.is(1, "NONE", SwivelBoard.NONE, -1);
        int[] counts = {0, 2, 0, 3, 0, 2, 0, 0};
        for (int i = 0; i < counts.length; i++) {
            Due.is(1, "count(" + i + ")", x.count(i), counts[i]);
        }
        for (int m = 0; m < 2; m++) {
            int[] facts = {0, -1, 1, 0, 0, 1};
            for (int i = 0; i < facts.length; i++) {
                Due.is(1, "member(" + m + ", " + i + ")", x.member(m, i), facts[i]);
            }
            Due.is(1, "drags", x.drags(m), 1 << m);
            Due.is(1, "goes", x.goes(m), 0);
        }
        Due.is(1, "chair()", x.chair(), -1);
        Due.is(1, "fault(0)", x.fault(0), 0);
        Due.is(1, "fault(1)", x.fault(1), -1);
        for (int t = 0; t < 4; t++) {
            int tray = t;
            Due.fails(1, "write to a missing tray", Due.STATE, () -> x.write(tray, 0, 0));
        }
        for (int i = 0; i < 3; i++) {
            int image = i;
            Due.failsDeed(1, "restore", Due.STATE, () -> x.restore(image));
        }
        Due.fails(1, "undo(1)", Due.ARGUMENT, () -> x.undo(1));
    }

    private static void feed() {
        SwivelBoard x = new SwivelBoard();
        for (int i = 1; i <= 45; i++) {
            Due.is(2, "feed", x.feed(0x20202020, 0x0a0a0a0a, 0x20202020, 0x20202020, 0x20202020), 20 * i);
        }
        Due.is(2, "feed beyond 900", x.feed(1, 2, 3, 4, 5), -1);
        Due.is(2, "count(7)", x.count(7), 900);
        Due.is(2, "board(900) of blanks", x.board(900), -12);
        Due.is(2, "its place", x.fault(1), 900);
        Due.is(2, "feed then", x.feed(0x626f6172, 0x6420333b, -1, Integer.MIN_VALUE, 0), 20);
        Due.is(2, "the highest byte first", x.board(8), 1);
        Due.is(2, "count(1)", x.count(1), 3);
    }

    private static void board() {
        SwivelBoard x = new SwivelBoard();
        Due.is(3, "board with 7 lines", Due.load(x, FOUR), 7);
        Due.is(3, "count(0)", x.count(0), 7);
        Due.is(3, "the tape is empty then", x.count(7), 0);
        x.turn(0, 1);
        Due.feed(x, "board 3;member 1 faces 2;");
        Due.fails(3, "board(-1)", Due.ARGUMENT, () -> x.board(-1));
        Due.fails(3, "board(41)", Due.ARGUMENT, () -> x.board(41));
        Due.is(3, "what throws leaves the tape", x.count(7), 40);
        Due.is(3, "count(6) before", x.count(6), 1);
        Due.is(3, "board(25)", x.board(25), 2);
        Due.is(3, "no deeds then", x.count(6), 0);
        Due.is(3, "no old laws", x.member(0, 5), 1);
        Due.is(3, "no old laws", x.drags(0), 1);
        Due.is(3, "no old aims", x.member(0, 0), 0);
        Due.is(3, "no old weights", x.count(5), 3);
        Due.is(3, "none stuck any more", x.count(2), 0);
        x.weigh(0, 4);
        Due.feed(x, "board 4;member 4;");
        Due.is(3, "a fault", x.board(17), -13);
        Due.is(3, "all stays", x.count(1), 3);
        Due.is(3, "all stays", x.count(6), 1);
        Due.is(3, "all stays", x.count(0), 2);
        Due.is(3, "all stays", x.member(0, 2), 4);
        Due.is(3, "the tape is empty all the same", x.count(7), 0);
        Due.feed(x, "board 5;junk that isn't read");
        Due.is(3, "the first bytes alone", x.board(8), 1);
        Due.is(3, "the rest is gone", x.count(7), 0);
        Due.is(3, "board(0)", x.board(0), -12);
        Due.is(3, "its place", x.fault(1), 0);
    }

    private static void fault(String text, int kind, int place) {
        SwivelBoard x = new SwivelBoard();
        Due.is(3, text, Due.load(x, text), -10 - kind);
        Due.is(4, "fault(0) of " + text, x.fault(0), kind);
        Due.is(4, "fault(1) of " + text, x.fault(1), place);
        Due.is(4, "fault(2)", x.fault(2), -1);
        Due.is(4, "fault(-1)", x.fault(-1), -1);
        x.board(0);
        Due.is(4, "the next one's fault", x.fault(1), 0);
        Due.load(x, "board 2;");
        Due.is(4, "no fault", x.fault(0), 0);
        Due.is(4, "no place", x.fault(1), -1);
    }

    private static void fine(String text, int lines) {
        SwivelBoard x = new SwivelBoard();
        Due.is(3, text, Due.load(x, text), lines);
        Due.is(4, "fault(0) of " + text, x.fault(0), 0);
        Due.is(4, "fault(1) of " + text, x.fault(1), -1);
    }

    private static void faults() {
        fault("", 2, 0);
        fault("   ", 2, 3);
        fault(";", 2, 0);
        fault("board", 2, 5);
        fault("board 2 ", 2, 8);
        fault("board;", 2, 5);
        fault("Board 2;", 1, 0);
        fault("board 2;\t", 1, 8);
        fault("board 2,", 1, 7);
        fault("board 0002;", 1, 6);
        fault("board 12345;", 1, 6);
        fault("board 2 3456;", 1, 8);
        fault("board 002 3;", 2, 10);
        fault("board 999;", 3, 6);
        fault("boards 2;", 2, 0);
        fault("board 2;;", 2, 8);
        fault("board 2;member 0;board 2;", 2, 17);
        fault("board 2;member 0 1;", 2, 17);
        fault("board 2;member 0 faces;", 2, 22);
        fault("board 2;member 0 faces 1 2;", 2, 25);
        fault("board 2;member 0 member 1;", 2, 17);
        fault("board 3;member 3 faces 7;", 3, 15);
        fault("board 3;member 2 faces 3;", 3, 23);
        fault("board 3;member 2 weight 10 weight 0;", 3, 24);
        fault("board 3;member 2 weight 0;", 3, 24);
        fault("board 3;member 2 weight;", 2, 23);
        fault("z", 2, 0);
        fault("board 2;az;", 2, 8);
        fault("board 2;a{;", 2, 8);
        fault("board 2;`;", 1, 8);
        fault("board 2;{;", 1, 8);
        fault("board 2;/;", 1, 8);
        fault("board 2;costs:1/2;", 1, 15);
        fault("board 3;member 0 stuck 1;", 2, 23);
        fault("board 3;drags;", 2, 13);
        fault("board 3;drags:;", 2, 14);
        fault("board 3;drags:1=1", 2, 17);
        fault("board 3;drags:1=;", 2, 16);
        fault("board 3;drags:(1=1);", 2, 16);
        fault("board 3;drags:[1]=1;", 2, 16);
        fault("board 3;drags:[1=1]=1;", 2, 19);
        fault("board 3;drags:[1=1]+1=1;", 2, 19);
        fault("board 3;drags:1=1=1;", 2, 17);
        fault("board 3;drags:1=1];", 2, 17);
        fault("board 3;drags:1=1);", 2, 17);
        fault("board 3;drags:[1=1;", 2, 18);
        fault("board 3;drags:(1;", 2, 16);
        fault("board 3;drags:1=1 not 1=1;", 2, 18);
        fault("board 3;drags:1=not 1;", 2, 16);
        fault("board 3;drags:1=[1=1];", 2, 16);
        fault("board 3;drags:1+not 1=1;", 2, 16);
        fault("board 3;drags:([1=1])=1;", 2, 15);
        fault("board 3;drags:1=1 and;", 2, 21);
        fault("board 3;drags:1 and 1=1;", 2, 16);
        fault("board 3;drags:aim=1;", 2, 14);
        fault("board 3;costs:other;", 2, 14);
        fault("board 3;costs:votes;", 2, 14);
        fault("board 3;costs:not 1=1;", 2, 14);
        fault("board 3;costs:[1];", 2, 14);
        fault("board 3;costs:-1;", 2, 14);
        fault("board 3;costs:1 or 2;", 2, 16);
        fault("board 3;costs:2 who;", 2, 16);
        fault("board 3;costs:2*;", 2, 16);
        fault("board 3;costs:);", 2, 14);
        fault("board 3;costs:(1]);", 2, 16);
        fault("board 3;costs:1);", 2, 15);
        fault("board 3;goes:apart;", 2, 13);
        fault("board 3;goes:who<1;", 2, 16);
        fault("board 3;goes:1:2;", 2, 14);
        fault("board 3;goes:1@;", 1, 14);
        fault("board 3;goes:1\u00e9;", 1, 14);
        fine("board 2;", 1);
        fine("board\n002\n;\n", 1);
        fine(" board2;member0faces1weight9stuck;", 2);
        fine("board 6;member 5 faces 5;member 0;", 3);
        fine("board 2;member 0 weight 1 faces 0;member 1 weight 9 faces 1;", 3);
        fine("board 2;costs:000+999;", 2);
        fine("board 3;drags:[[1=1]]and not[1<2 or 2>1];goes:(aim+votes)*(who-weight);costs:((1));", 4);
    }

    private static void depth() {
        fine("board 2;drags:not not not not not not 1=1;", 2);
        fault("board 2;drags:not not not not not not not 1=1;", 4, 38);
        fine("board 2;drags:[[[[[[1=1]]]]]];", 2);
        fault("board 2;drags:[[[[[[[1=1]]]]]]];", 4, 20);
        fine("board 2;costs:((((((1))))));", 2);
        fault("board 2;goes:(((((((1)))))));", 4, 19);
        fine("board 2;drags:not[not[not(1)=(1)]];", 2);
        fine("board 2;drags:not[not[not[1=1]]]and not[not[not 1=(1)]];", 2);
        fault("board 2;drags:not[not[not[1=(1)]]];", 4, 28);
        fine("board 2;drags:not not not not not(1)=(1)and not not not not not(1)=(1);", 2);
        fault("board 2;drags:not not not not not[(1)=1];", 4, 34);
        // What can't stand there is no seventh: the least kind.
        fault("board 2;drags:not not not not not not 1(=1;", 2, 39);
        fault("board 2;costs:((((((not;", 2, 20);
    }

    private static int price(String law) {
        return Due.of("board 3;member 2 weight 7;costs:" + law + ";").member(2, 5);
    }

    private static int dragged(String law) {
        return Due.of("board 4;drags:" + law + ";").drags(0);
    }

    private static void laws() {
        Due.is(3, "2+3*4", price("2+3*4"), 14);
        Due.is(3, "(2+3)*4", price("(2+3)*4"), 20);
        Due.is(3, "20-3-2", price("20-3-2"), 15);
        Due.is(3, "20-(3-2)", price("20-(3-2)"), 19);
        Due.is(3, "who*weight", price("who*weight"), 14);
        Due.is(3, "a later law strikes", Due.of("board 2;costs:5;costs:who;").member(1, 5), 1);
        Due.is(3, "a later law strikes", Due.of("board 2;costs:5;costs:7;").member(1, 5), 7);
        Due.is(3, "or binds less than and", dragged("1=1 or 1=2 and 1=2"), 15);
        Due.is(3, "or binds less than and", dragged("1=2 and 1=2 or 1=1"), 15);
        Due.is(3, "brackets", dragged("[1=1 or 1=2]and 1=2"), 1);
        Due.is(3, "not binds most", dragged("not 1=1 or 1=1"), 15);
        Due.is(3, "not of all", dragged("not[1=1 or 1=1]"), 1);
        Due.is(3, "not not", dragged("not not other>1"), 13);
        Due.is(3, "not ahead of and", dragged("not other=1 and other<3"), 5);
    }

    private static void bounds() {
        // 999*999*999 is kept at 1000000, which is 1999 above 999*999.
        Due.is(3, "kept from above", price("999*999*999-999*999-999-950"), 50);
        Due.is(3, "kept from above", price("999*999*2+5-999*999-975-975"), 49);
        Due.is(3, "kept from below", price("0-999*999*2-999+999*999*2+50"), 50);
        Due.is(3, "a factor below 0", price("(0-2)*(0-3)"), 6);
        Due.is(5, "1 at least", price("0"), 1);
        Due.is(5, "1 at least", price("0-5"), 1);
        Due.is(5, "99", price("99"), 99);
        Due.is(5, "99 at most", price("100"), 99);
    }

    private static void member() {
        SwivelBoard x = Due.of(FOUR);
        int[][] facts = {{2, 2, 1, 7, 0, 3}, {3, 0, 2, 0, 0, 6}, {0, -1, 1, 1, 0, 3}, {1, 0, 5, 0, 1, 15}};
        for (int m = 0; m < 4; m++) {
            for (int i = 0; i < 6; i++) {
                Due.is(5, "member(" + m + ", " + i + ")", x.member(m, i), facts[m][i]);
            }
        }
        Due.fails(5, "member(4, 0)", Due.NO_ELEMENT, () -> x.member(4, 0));
        Due.fails(5, "member(-1, 9)", Due.NO_ELEMENT, () -> x.member(-1, 9));
        Due.fails(5, "member(0, 6)", Due.ARGUMENT, () -> x.member(0, 6));
        Due.fails(5, "member(0, -1)", Due.ARGUMENT, () -> x.member(0, -1));
        SwivelBoard y = Due.of("board 3;member 1 faces 1 weight 9 stuck;member 1 faces 2;member 1 weight 2 weight 4;");
        Due.is(5, "a later aim strikes", y.member(1, 0), 2);
        Due.is(5, "a later weight strikes", y.member(1, 2), 4);
        Due.is(5, "stuck stays", y.member(1, 4), 1);
    }

    private static void chair() {
        Due.is(6, "chair()", Due.of(FOUR).chair(), 0);
        Due.is(6, "nobody", Due.of("board 5;").chair(), -1);
        Due.is(6, "the first of like ones", Due.of("board 3;member 0 faces 2;member 2 faces 2;").chair(), 1);
        Due.is(6, "the heavier", Due.of("board 3;member 0 faces 2 weight 2;member 2 faces 2;").chair(), 2);
        Due.is(6, "all together", Due.of("board 6;member 0 faces 5 weight 9;member 1 faces 4 weight 9;"
            + "member 2 faces 3 weight 9;member 3 faces 2 weight 9;member 4 faces 1 weight 9;").chair(), 5);
        Due.is(6, "votes", Due.of("board 6;member 0 faces 5 weight 9;member 1 faces 4 weight 9;"
            + "member 2 faces 3 weight 9;member 3 faces 2 weight 9;member 4 faces 1 weight 9;").member(5, 3), 45);
    }

    private static void drags() {
        SwivelBoard x = Due.of(FOUR);
        int[] bits = {3, 6, 4, 0};
        for (int m = 0; m < 4; m++) {
            Due.is(7, "drags(" + m + ")", x.drags(m), bits[m]);
        }
        Due.fails(7, "drags(4)", Due.NO_ELEMENT, () -> x.drags(4));
        Due.fails(7, "drags(-1)", Due.NO_ELEMENT, () -> x.drags(-1));
        SwivelBoard y = Due.of("board 5;member 4 weight 3;drags:apart=weight-1;");
        Due.is(7, "apart, the shorter way, by who is turned's weight", y.drags(4), 1 << 4 | 1 << 1 | 1 << 2);
        Due.is(7, "never itself by the law", y.drags(0), 1);
        SwivelBoard z = Due.of("board 6;drags:apart=3 or apart=1 and who>other;");
        Due.is(7, "apart 3 and below", z.drags(5), 1 << 5 | 1 << 2 | 1 << 4 | 1);
    }

    private static void goes() {
        SwivelBoard x = Due.of(FOUR);
        int[] notches = {3, 0, 1, 0};
        for (int m = 0; m < 4; m++) {
            Due.is(8, "goes(" + m + ")", x.goes(m), notches[m]);
        }
        Due.fails(8, "goes(4)", Due.NO_ELEMENT, () -> x.goes(4));
        Due.fails(8, "goes(-1)", Due.NO_ELEMENT, () -> x.goes(-1));
        SwivelBoard y = Due.of("board 3;member 0 faces 1 weight 5;goes:0-votes-who;");
        Due.is(8, "below 0, from 0 on", y.goes(0), 0);
        Due.is(8, "below 0, from 0 on", y.goes(1), 0);
        Due.is(8, "below 0, from 0 on", y.goes(2), 1);
        Due.is(8, "weight", Due.of("board 6;member 3 weight 9;goes:weight;").goes(3), 3);
    }
}
