/** Promises 1 to 4 at their boundaries: a new object, the tape, the board's text and its faults. */
public final class EdgeTextTest {
    public static void main(String[] args) {
        newObject();
        feed();
        boardCall();
        boardKeeps();
        members();
        flags();
        laws();
        tokens();
        faultOne();
        faultTwo();
        faultThree();
        faultFour();
        faultFourGivenBack();
        faultOrder();
        faultCall();
        Edge.end(1, 4);
    }

    private static String blanks(int n) {
        return " ".repeat(n);
    }

    private static void newObject() {
        Edge.of(1, "2 MEMBERS", () -> {
            SwivelBoard x = new SwivelBoard();
            Edge.is("count(1)", x.count(1), 2);
            Edge.is("member(1, 2)", x.member(1, 2), 1);
            Edge.fails("member(2, 0)", Due.NO_ELEMENT, () -> x.member(2, 0));
            Edge.is("count(5)", x.count(5), 2);
        });
        Edge.of(1, "both look OUT", () -> {
            SwivelBoard x = new SwivelBoard();
            Edge.aims(x, 0, 0);
            Edge.is("member(0, 1)", x.member(0, 1), -1);
            Edge.is("member(1, 1)", x.member(1, 1), -1);
            Edge.is("count(3)", x.count(3), 3);
            Edge.is("chair()", x.chair(), -1);
        });
        Edge.of(1, "TRAYS are MISSING", () -> {
            SwivelBoard x = new SwivelBoard();
            for (int t = 0; t < 4; t++) {
                int tray = t;
                Edge.fails("write(" + t + ", 0, 0)", Due.STATE, () -> x.write(tray, 0, 0));
                Edge.fails("judge(" + t + ", 0)", Due.STATE, () -> x.judge(tray, 0));
                Edge.fails("ways(" + t + ")", Due.STATE, () -> x.ways(tray));
            }
        });
        Edge.of(1, "an empty tape", () -> {
            SwivelBoard x = new SwivelBoard();
            Edge.is("count(7)", x.count(7), 0);
            Edge.fails("board(1)", Due.ARGUMENT, () -> x.board(1));
            Edge.is("feed", x.feed(0, 0, 0, 0, 0), 20);
        });
        Edge.of(1, "without a text there are no LINES, laws, DEEDS, IMAGES", () -> {
            SwivelBoard x = new SwivelBoard();
            Edge.is("count(0)", x.count(0), 0);
            Edge.is("count(2)", x.count(2), 0);
            Edge.is("count(6)", x.count(6), 0);
            Edge.is("drags(0)", x.drags(0), 1);
            Edge.is("goes(0)", x.goes(0), 0);
            Edge.is("member(0, 5)", x.member(0, 5), 1);
            Edge.fails("undo(1)", Due.ARGUMENT, () -> x.undo(1));
            for (int i = 0; i < 3; i++) {
                int image = i;
                Edge.failsDeed("restore(" + i + ")", Due.STATE, () -> x.restore(image));
            }
        });
    }

    private static void feed() {
        Edge.of(2, "how many it has: 20 to 900", () -> {
            SwivelBoard x = new SwivelBoard();
            for (int i = 1; i <= 45; i++) {
                Edge.is("feed", x.feed(i, i, i, i, i), 20 * i);
            }
        });
        Edge.of(2, "NONE, and nothing changes, if there would be more than 900", () -> {
            SwivelBoard x = new SwivelBoard();
            Due.feed(x, "board 5;" + blanks(880) + "goes:1;     ");
            Edge.is("count(7)", x.count(7), 900);
            Edge.is("feed", x.feed(-1, -1, -1, -1, -1), -1);
            Edge.is("feed again", x.feed(-1, -1, -1, -1, -1), -1);
            Edge.is("count(7) then", x.count(7), 900);
            Edge.is("board(900)", x.board(900), 2);
            Edge.is("goes(4)", x.goes(4), 1);
            Edge.is("an empty tape takes twenty again", x.feed(0, 0, 0, 0, 0), 20);
        });
        Edge.of(2, "behind those on the tape", () -> {
            SwivelBoard x = new SwivelBoard();
            Due.feed(x, "board 3;member 2 fac");
            Due.feed(x, "es 2;");
            Edge.is("board(25)", x.board(25), 2);
            Edge.aims(x, 0, 0, 2);
        });
        Edge.of(2, "the highest of each int first", () -> {
            SwivelBoard x = new SwivelBoard();
            x.feed(0x20626f61, 0x72642034, 0x3b636f73, 0x74733a37, 0x203b2020);
            Edge.is("board(20)", x.board(20), 2);
            Edge.is("member(3, 5)", x.member(3, 5), 7);
        });
        Edge.of(2, "twenty bytes, the last one of e too", () -> {
            SwivelBoard x = new SwivelBoard();
            x.feed(0x626f6172, 0x6420323b, 0x20202020, 0x20202020, 0x20202040);
            Edge.is("board(20)", x.board(20), -11);
            Edge.is("fault(1)", x.fault(1), 19);
        });
        Edge.of(2, "a byte of 128 and more is one byte", () -> {
            SwivelBoard x = new SwivelBoard();
            x.feed(0x80626f61, 0x72642032, 0x3b202020, 0x20202020, 0x202020ff);
            Edge.is("board(20)", x.board(20), -11);
            Edge.is("fault(1)", x.fault(1), 0);
            x.feed(0x626f6172, 0x6420323b, 0x202020ff, -1, -1);
            Edge.is("board(12)", x.board(12), -11);
            Edge.is("fault(1)", x.fault(1), 11);
        });
    }

    private static void boardCall() {
        Edge.of(3, "IllegalArgumentException: n is below 0", () -> {
            SwivelBoard x = new SwivelBoard();
            Due.feed(x, "board 3;");
            Edge.fails("board(-1)", Due.ARGUMENT, () -> x.board(-1));
            Edge.fails("board(MIN)", Due.ARGUMENT, () -> x.board(Integer.MIN_VALUE));
            Edge.is("the tape stays", x.count(7), 20);
            Edge.is("board(8)", x.board(8), 1);
        });
        Edge.of(3, "IllegalArgumentException: n is above what it has", () -> {
            SwivelBoard x = new SwivelBoard();
            Edge.fails("board(1) of nothing", Due.ARGUMENT, () -> x.board(1));
            Due.feed(x, "board 3;");
            Edge.fails("board(21)", Due.ARGUMENT, () -> x.board(21));
            Edge.fails("board(900)", Due.ARGUMENT, () -> x.board(900));
            Edge.fails("board(MAX)", Due.ARGUMENT, () -> x.board(Integer.MAX_VALUE));
            Edge.is("the tape stays", x.count(7), 20);
            Edge.is("board(20)", x.board(20), 1);
        });
        Edge.of(3, "n is 0: a text without board", () -> {
            SwivelBoard x = Due.of("board 3;");
            Due.feed(x, "board 4;");
            Edge.is("board(0)", x.board(0), -12);
            Edge.is("fault(1)", x.fault(1), 0);
            Edge.is("count(1)", x.count(1), 3);
            Edge.is("the tape is empty then", x.count(7), 0);
            Edge.is("board(0) of nothing", x.board(0), -12);
        });
        Edge.of(3, "the first n bytes: not one more", () -> {
            String text = "board 3;member 1;";
            int[] due = {-12, -12, -12, -12, -12, -12, -12, -12, 1, -12, -12, -12, -12, -12, -12, -12, -12, 2};
            int[] place = {0, 0, 0, 0, 0, 5, 6, 7, -1, 8, 8, 8, 8, 8, 14, 15, 16, -1};
            for (int n = 0; n <= 17; n++) {
                SwivelBoard x = new SwivelBoard();
                Due.feed(x, text);
                Edge.is("board(" + n + ")", x.board(n), due[n]);
                Edge.is("fault(1) of " + n, x.fault(1), place[n]);
            }
        });
        Edge.of(3, "the tape is empty then, the bytes behind the first n too", () -> {
            SwivelBoard x = new SwivelBoard();
            Due.feed(x, "board 3;" + blanks(60));
            Edge.is("board(8)", x.board(8), 1);
            Edge.is("count(7)", x.count(7), 0);
            Edge.fails("board(1)", Due.ARGUMENT, () -> x.board(1));
        });
        Edge.of(3, "the tape is empty then, with a FAULT too", () -> {
            SwivelBoard x = new SwivelBoard();
            Due.feed(x, "board 7;" + blanks(60));
            Edge.is("board(8)", x.board(8), -13);
            Edge.is("count(7)", x.count(7), 0);
        });
        Edge.of(3, "a TEXT of 900 bytes", () -> {
            String text = "board 6;" + "goes:0;".repeat(126) + "goes:5;" + blanks(3);
            Edge.is("its length", text.length(), 900);
            SwivelBoard x = new SwivelBoard();
            Edge.is("board(900)", Due.load(x, text), 128);
            Edge.is("goes(0)", x.goes(0), 5);
            Edge.fault(2, "board 2;" + blanks(891) + "^;");
            Edge.fault(1, "board 2;" + blanks(891) + "^?");
            Edge.fault(2, blanks(900) + "^");
        });
        Edge.of(3, "a law as long as 900 bytes can be", () -> {
            StringBuilder sum = new StringBuilder("board 2;goes:1");
            for (int i = 0; i < 442; i++) {
                sum.append("+1");
            }
            Edge.is("its length", sum.append(";").length(), 899);
            Edge.is("goes(0), modulo 2 of 443", Due.of(sum.toString()).goes(0), 1);
            Edge.is("drags(1)", Due.of("board 2;drags:" + "1=1 or ".repeat(126) + "1=2;").drags(1), 3);
            Edge.is("member(0, 5)", Due.of("board 2;costs:" + "1*".repeat(442) + "7;").member(0, 5), 7);
        });
    }

    private static void boardKeeps() {
        Edge.of(3, "how many LINES (board, too)", () -> {
            Edge.fine("board 2;", 1);
            Edge.fine("board 2;member 0;", 2);
            Edge.fine("board 2;member 0;member 0;member 1;drags:1=1;drags:1=2;costs:1;goes:1;", 8);
        });
        Edge.of(3, "are THE BOARD: nothing is left of what was", () -> {
            SwivelBoard x = Due.of("board 5;member 0 faces 4 weight 9 stuck;member 4 faces 1 weight 3 stuck;"
                + "drags:1=1;costs:9;goes:1;");
            Edge.is("board", Due.load(x, "board 5;"), 1);
            Edge.unchanged("board", Due.view(Due.of("board 5;")), x);
        });
        Edge.of(3, "no DEEDS", () -> {
            SwivelBoard x = Due.of("board 3;");
            for (int i = 0; i < 10; i++) {
                x.turn(0, 1);
            }
            Due.load(x, "board 3;");
            Edge.is("count(6)", x.count(6), 0);
            Edge.fails("undo(1)", Due.ARGUMENT, () -> x.undo(1));
            x.weigh(1, 5);
            Edge.is("undo(1)", x.undo(1), 0);
            Edge.aims(x, 0, 0, 0);
        });
        Edge.of(3, "-10 less the FAULT", () -> {
            Edge.is("1", Due.load(new SwivelBoard(), "!"), -11);
            Edge.is("2", Due.load(new SwivelBoard(), ";"), -12);
            Edge.is("3", Due.load(new SwivelBoard(), "board 1;"), -13);
            Edge.is("4", Due.load(new SwivelBoard(), "board 2;costs:((((((("), -14);
        });
        Edge.of(3, "with a FAULT all stays", () -> {
            String[] wrong = {"board 4;member 0 faces 3 weight 7 stuck;drags:1=1;costs:50;goes:1;?", "board 2;costs:9",
                "board 6;member 0 weight 4;member 1 stuck;member 6;", "board 2;goes:(((((((1)))))));"};
            String text = "board 3;member 0 faces 2 weight 2;member 2 faces 1 stuck;drags:other<who;costs:8-who;goes:2;";
            for (String w : wrong) {
                SwivelBoard x = Due.of(text);
                SwivelBoard twin = Due.of(text);
                for (SwivelBoard y : new SwivelBoard[] {x, twin}) {
                    y.turn(1, 2);
                    y.weigh(2, 6);
                    Due.row(y, 0, 1, 0, -1, -1);
                    y.image(1);
                    y.stick(1);
                }
                Edge.is("it has a fault", Due.load(x, w) < 0 ? 1 : 0, 1);
                for (int i = 0; i < 7; i++) {
                    Edge.is("count(" + i + ")", x.count(i), twin.count(i));
                }
                for (int m = 0; m < 3; m++) {
                    for (int what = 0; what < 6; what++) {
                        Edge.is("member(" + m + ", " + what + ")", x.member(m, what), twin.member(m, what));
                    }
                    Edge.is("drags(" + m + ")", x.drags(m), twin.drags(m));
                    Edge.is("goes(" + m + ")", x.goes(m), twin.goes(m));
                }
                Edge.is("a tray", x.ways(0), twin.ways(0));
                Edge.is("undo(3)", x.undo(3), 0);
                Edge.aims(x, 2, 0, 1);
                x.restore(1);
                Edge.is("an image", x.count(6), 2);
            }
        });
        Edge.of(3, "a text is read anew, whatever the one ahead of it broke off", () -> {
            String[] broken = {"board 2;drags:[[[[[[", "board 2;costs:((((((", "board 2;drags:not not not not not not",
                "board 2;goes:5*", "board 2;goes:5-3*(4-", "board 2;drags:1=1 and not[1=", "board 2;member 1 stuck faces 1",
                "board 6;member 5 weight 9;drags:1=1;costs:9;goes:1;!", "board 2;drags:[1=1", "board"};
            String text = "board 3;member 1 faces 2;drags:not[not[not[other=2]]];costs:((((((7))))));goes:1;";
            String due = Due.view(Due.of(text));
            SwivelBoard x = new SwivelBoard();
            for (String b : broken) {
                Edge.is("it has a fault: " + b, Due.load(x, b) < 0 ? 1 : 0, 1);
                Edge.is("fine behind " + b, Due.load(x, text), 5);
                Edge.unchanged("fine behind " + b, due, x);
            }
            for (String b : broken) {
                Due.load(x, b);
                Edge.is("without laws behind " + b, Due.load(x, "board 2;"), 1);
                Edge.unchanged("without laws behind " + b, Due.view(Due.of("board 2;")), x);
            }
        });
        Edge.of(3, "IMAGES and TRAYS stay behind another board", () -> {
            SwivelBoard x = Due.of("board 3;member 0 faces 2;");
            x.image(0);
            Due.row(x, 2, 0, 1, -1);
            Due.load(x, "board 2;");
            Edge.is("ways(2)", x.ways(2), 2);
            x.restore(0);
            Edge.aims(x, 2, 0, 0);
            Edge.fails("ways(2), not as many numbers as members", Due.ARGUMENT, () -> x.ways(2));
        });
    }

    private static void members() {
        Edge.of(3, "board: MEMBERS, 2 to 6", () -> {
            for (int n = 2; n <= 6; n++) {
                SwivelBoard x = Due.of("board " + n + ";");
                Edge.is("count(1)", x.count(1), n);
                Edge.is("count(5)", x.count(5), n);
                Edge.is("count(3)", x.count(3), (1 << n) - 1);
            }
            Edge.fault(3, "board ^0;");
            Edge.fault(3, "board ^1;");
            Edge.fault(3, "board ^7;");
            Edge.fault(3, "board ^999;");
            Edge.fine("board 002;", 1);
            Edge.fine("board 06;", 1);
        });
        Edge.of(3, "MEMBERS, numbered from 0 on", () -> {
            for (int n = 2; n <= 6; n++) {
                Edge.fine("board " + n + ";member 0;", 2);
                Edge.fine("board " + n + ";member " + (n - 1) + ";", 2);
                Edge.fault(3, "board " + n + ";member ^" + n + ";");
                Edge.fault(3, "board " + n + ";member ^999;");
            }
        });
    }

    private static void flags() {
        Edge.of(3, "faces: its AIM, 0 to MEMBERS less 1", () -> {
            for (int n = 2; n <= 6; n++) {
                for (int aim = 0; aim < n; aim++) {
                    SwivelBoard x = Due.of("board " + n + ";member " + (n - 1) + " faces " + aim + ";");
                    Edge.is("aim", x.member(n - 1, 0), aim);
                }
                Edge.fault(3, "board " + n + ";member 0 faces ^" + n + ";");
            }
        });
        Edge.of(3, "faces (0), weight (1): without them", () -> {
            SwivelBoard x = Due.of("board 3;member 1 faces 2;member 2 weight 4;member 0 stuck;");
            Edge.aims(x, 0, 2, 0);
            Edge.weights(x, 1, 1, 4);
            Edge.is("count(2)", x.count(2), 1);
        });
        Edge.of(3, "weight: 1 to 9", () -> {
            for (int w = 1; w <= 9; w++) {
                Edge.is("weight", Due.of("board 6;member 5 weight " + w + ";").member(5, 2), w);
            }
            Edge.fault(3, "board 6;member 5 weight ^0;");
            Edge.fault(3, "board 6;member 5 weight ^10;");
            Edge.fault(3, "board 6;member 5 weight ^999;");
        });
        Edge.of(3, "of a MEMBER, a word the later one strikes", () -> {
            SwivelBoard x = Due.of("board 4;member 2 faces 3 faces 1 weight 9 weight 2;member 1 faces 2 weight 5;"
                + "member 2 faces 2;member 1 weight 4;");
            Edge.aims(x, 0, 2, 2, 0);
            Edge.weights(x, 1, 4, 2, 1);
            SwivelBoard y = Due.of("board 4;member 2 faces 3;member 2 faces 0;member 3 weight 9;member 3 weight 1;");
            Edge.aims(y, 0, 0, 0, 0);
            Edge.weights(y, 1, 1, 1, 1);
        });
        Edge.of(3, "who is stuck stays so", () -> {
            Edge.is("told once", Due.of("board 3;member 2 stuck;member 2;member 2 faces 1;").count(2), 4);
            Edge.is("told twice", Due.of("board 3;member 2 stuck stuck;member 2 stuck;").count(2), 4);
            Edge.is("all", Due.of("board 6;member 0 stuck;member 1 stuck;member 2 stuck;member 3 stuck;member 4 stuck;"
                + "member 5 stuck;").count(2), 63);
        });
    }

    private static void laws() {
        Edge.of(3, "later ones of drags, costs, goes strike", () -> {
            SwivelBoard x = Due.of("board 3;costs:5;drags:1=1;goes:2;drags:1=2;goes:1;costs:4;");
            Edge.is("drags(0)", x.drags(0), 1);
            Edge.is("goes(0)", x.goes(0), 1);
            Edge.is("member(0, 5)", x.member(0, 5), 4);
        });
        Edge.of(3, "a law that is struck has its FAULTS still", () ->
            Edge.fault(2, "board 3;costs:^aim;costs:1;"));
        Edge.of(3, "TRUTH: BOTH { or BOTH }; BOTH: UNIT { and UNIT }; UNIT: not UNIT, [ TRUTH ]", () -> {
            String[] law = {"1=1 or 1=1 and 1=2", "1=2 and 1=1 or 1=1", "[1=1 or 1=1]and 1=2", "1=2 and[1=1 or 1=1]",
                "not 1=2 and 1=2", "not[1=2 and 1=2]", "not 1=1 or 1=1", "not not 1=1", "not not not 1=1"};
            int[] due = {3, 3, 1, 1, 1, 3, 3, 3, 1};
            for (int i = 0; i < law.length; i++) {
                Edge.is(law[i], Due.of("board 2;drags:" + law[i] + ";").drags(0), due[i]);
            }
        });
        Edge.of(3, "SUM, one of = < >, SUM", () -> {
            String[] law = {"2=2", "2=3", "2<2", "2<3", "3<2", "2>2", "3>2", "2>3"};
            int[] due = {3, 1, 1, 3, 1, 1, 3, 1};
            for (int i = 0; i < law.length; i++) {
                Edge.is(law[i], Due.of("board 2;drags:" + law[i] + ";").drags(0), due[i]);
            }
        });
        Edge.of(3, "SUM: TERM { + TERM | - TERM }; TERM: ATOM { * ATOM }", () -> {
            String[] law = {"2+3*4", "2*3+4", "(2+3)*4", "30-5-3", "30-(5-3)", "30-5+3", "2*3*4", "50-2*3*4", "((9))"};
            int[] due = {14, 10, 20, 22, 28, 28, 24, 26, 9};
            for (int i = 0; i < law.length; i++) {
                Edge.is(law[i], Due.of("board 2;costs:" + law[i] + ";").member(0, 5), due[i]);
            }
        });
    }

    private static void tokens() {
        Edge.of(3, "words: no other letter, none less, none more", () -> {
            String[] texts = {"~board~ 2;", "board 2;~member~ 0;", "board 2;member 0 ~faces~ 1;", "board 2;member 0 ~weight~ 1;",
                "board 2;member 0 ~stuck~;", "board 2;~drags~:1=1;", "board 2;~costs~:1;", "board 2;~goes~:1;",
                "board 2;drags:~not~ 1=1;", "board 2;drags:1=1 ~and~ 1=1;", "board 2;drags:1=1 ~or~ 1=1;",
                "board 2;costs:~who~;", "board 2;costs:~weight~;", "board 2;drags:~other~=1;", "board 2;drags:~apart~=1;",
                "board 2;goes:~aim~;", "board 2;goes:~votes~;"};
            for (String t : texts) {
                int from = t.indexOf('~');
                int to = t.indexOf('~', from + 1);
                String ahead = t.substring(0, from);
                String word = t.substring(from + 1, to);
                String behind = t.substring(to + 1);
                Edge.is(t, Due.load(new SwivelBoard(), ahead + word + behind), ahead.isEmpty() ? 1 : 2);
                for (int i = 0; i < word.length(); i++) {
                    Edge.fault(2, ahead + "^" + word.substring(0, i) + "z" + word.substring(i + 1) + behind);
                }
                Edge.fault(2, ahead + "^" + word.substring(1) + behind);
                Edge.fault(2, ahead + "^" + word.substring(0, word.length() - 1) + behind);
                Edge.fault(2, ahead + "^" + word + "s" + behind);
                Edge.fault(2, ahead + "^a" + word + behind);
            }
        });
        Edge.of(3, "TOKENS, as long as they go", () -> {
            Edge.fine("board2;member1faces1weight9stuck;drags:not1=1and not2=2or 1<2;", 3);
            Edge.fault(2, "^boards 2;");
            Edge.fault(2, "^boar 2;");
            Edge.fault(2, "board 2;^memberr 0;");
            Edge.fault(2, "board 2;drags:^notnot 1=1;");
            Edge.fault(2, "board 2;member 0 ^stuckstuck;");
            Edge.fault(3, "board ^22;");
            Edge.fault(2, "board 2 ^2;");
        });
        Edge.of(3, "between them blanks (10, 32)", () -> {
            Edge.fine(" \n board\n\n2 \n;\nmember\n1 faces\n1 ; \n", 2);
            Edge.fine("board 2\n;", 1);
            int[] others = {0, 1, 8, 9, 11, 12, 13, 31, 33, 127, 128, 133, 160, 255};
            for (int c : others) {
                Edge.fault(1, "board^" + (char) c + "2;");
            }
        });
        Edge.of(3, "N (1 to 3 digits)", () -> {
            Edge.is("0", Due.of("board 2;costs:0+2;").member(0, 5), 2);
            Edge.is("00", Due.of("board 2;costs:00+2;").member(0, 5), 2);
            Edge.is("000", Due.of("board 2;costs:000+2;").member(0, 5), 2);
            Edge.is("999", Due.of("board 2;costs:999-990;").member(0, 5), 9);
            Edge.is("010", Due.of("board 2;costs:010;").member(0, 5), 10);
            Edge.fault(1, "board 2;costs:^1000;");
            Edge.fault(1, "board 2;costs:^0000;");
        });
    }

    private static void faultOne() {
        Edge.of(4, "1 no TOKEN begins so: each of 256 bytes", () -> {
            for (int c = 0; c < 256; c++) {
                if (c == '^') {
                    continue;
                }
                boolean blank = c == 10 || c == 32;
                boolean token = c >= 'a' && c <= 'z' || c >= '0' && c <= '9' || ";:+-*()[]=<>".indexOf(c) >= 0;
                Edge.fault(blank || token ? 2 : 1, blank ? (char) c + "^" : "^" + (char) c);
            }
            SwivelBoard x = new SwivelBoard();
            Edge.is("^", Due.load(x, "^"), -11);
        });
        Edge.of(4, "4 digits and more: at their first", () -> {
            Edge.fault(1, "board ^2222;");
            Edge.fault(1, "board ^0002;");
            Edge.fault(1, "board 2;goes:1+^12345678901234567890;");
            Edge.fault(1, "board ^" + "9".repeat(890) + ";");
            Edge.fault(1, "board 2;costs:5 ^0005;");
            Edge.fault(1, "^1234");
            Edge.fault(2, "^123 4");
        });
        Edge.of(4, "of one TOKEN the least kind: 1 ahead of 2", () -> {
            Edge.fault(1, "^0000");
            Edge.fault(1, "board 2;^!");
            Edge.fault(1, "board 2;costs^,1;");
            Edge.fault(1, "board 2;member 0 ^#;");
            Edge.fault(1, "board 2;member 0 faces ^.;");
        });
    }

    private static void faultTwo() {
        Edge.of(4, "2 it can't stand there (the end: the text's length)", () -> {
            Edge.fault(2, "^");
            Edge.fault(2, "board^");
            Edge.fault(2, "board 2^");
            Edge.fault(2, "board 2  \n^");
            Edge.fault(2, "board 2;member^");
            Edge.fault(2, "board 2;member 0^");
            Edge.fault(2, "board 2;member 0 faces^");
            Edge.fault(2, "board 2;member 0 weight  ^");
            Edge.fault(2, "board 2;drags^");
            Edge.fault(2, "board 2;drags:^");
            Edge.fault(2, "board 2;drags:1^");
            Edge.fault(2, "board 2;drags:1=^");
            Edge.fault(2, "board 2;drags:1=1^");
            Edge.fault(2, "board 2;drags:1=1 and^");
            Edge.fault(2, "board 2;drags:[1=1 ^");
            Edge.fault(2, "board 2;costs:(1^");
            Edge.fault(2, "board 2;goes:1 + ^");
            Edge.fault(2, "board 2;goes:1 ^");
        });
        Edge.of(4, "2 board must be told first, and once", () -> {
            Edge.fault(2, "^member 0;board 2;");
            Edge.fault(2, "^goes:1;");
            Edge.fault(2, "^; board 2;");
            Edge.fault(2, "^2;");
            Edge.fault(2, "board 2;^board 2;");
            Edge.fault(2, "board 2;member 0;^board 3;");
            Edge.fault(2, "board 2 ^board 2;");
            Edge.fault(2, "board ^board 2;");
        });
        Edge.of(4, "2 a word of another law", () -> {
            Edge.fault(2, "board 2;drags:^aim=1;");
            Edge.fault(2, "board 2;drags:1=^votes;");
            Edge.fault(2, "board 2;costs:^other;");
            Edge.fault(2, "board 2;costs:1+^apart;");
            Edge.fault(2, "board 2;costs:(^aim);");
            Edge.fault(2, "board 2;costs:2*^votes;");
            Edge.fault(2, "board 2;goes:^other;");
            Edge.fault(2, "board 2;goes:1-^apart;");
            Edge.fault(2, "board 2;costs:^not 1;");
            Edge.fault(2, "board 2;goes:1 ^and 1;");
            Edge.fault(2, "board 2;goes:1 ^or 1;");
            Edge.fine("board 2;drags:other=who and apart<weight;costs:who+weight;goes:aim+votes+who+weight;", 4);
        });
        Edge.of(4, "2 a word of a law's own, where it isn't a law's", () -> {
            Edge.fault(2, "board 2;^who;");
            Edge.fault(2, "board 2;^faces 1;");
            Edge.fault(2, "board 2;^weight 1;");
            Edge.fault(2, "board 2;^stuck;");
            Edge.fault(2, "board 2;costs:^stuck;");
            Edge.fault(2, "board 2;goes:^faces;");
            Edge.fault(2, "board 2;goes:^goes;");
            Edge.fault(2, "board 2;member 0 ^drags:1=1;");
            Edge.fault(2, "board 2;member ^who;");
        });
        Edge.of(4, "2 an empty LINE, law, ( ), [ ]", () -> {
            Edge.fault(2, "board 2;^;");
            Edge.fault(2, "board 2;drags:^;");
            Edge.fault(2, "board 2;costs:^;");
            Edge.fault(2, "board 2;goes:^;");
            Edge.fault(2, "board 2;goes:(^);");
            Edge.fault(2, "board 2;drags:[^];");
            Edge.fault(2, "board 2;drags:not^;");
            Edge.fault(2, "board^;");
            Edge.fault(2, "board 2;member^;");
            Edge.fine("board 2;member 1;", 2);
        });
        Edge.of(4, "2 what opens is closed by its own, and no more often", () -> {
            Edge.fault(2, "board 2;costs:(1^];");
            Edge.fault(2, "board 2;drags:[1=1^);");
            Edge.fault(2, "board 2;costs:(1)^);");
            Edge.fault(2, "board 2;drags:[1=1]^];");
            Edge.fault(2, "board 2;drags:[(1^]=1);");
            Edge.fault(2, "board 2;costs:(1^;");
            Edge.fault(2, "board 2;drags:[1=1^;");
            Edge.fault(2, "board 2;drags:(1^=1);");
            Edge.fault(2, "board 2;drags:[1^];");
            Edge.fault(2, "board 2;drags:[(1)^]=1;");
            Edge.fault(2, "board 2;drags:1^;");
            Edge.fault(2, "board 2;drags:1=1^=1;");
            Edge.fault(2, "board 2;drags:1=1^<1;");
            Edge.fault(2, "board 2;drags:[1=1]^=1;");
            Edge.fault(2, "board 2;drags:[1=1]^+1;");
            Edge.fault(2, "board 2;drags:[1=1]^*1;");
            Edge.fault(2, "board 2;drags:1=^[1=1];");
            Edge.fault(2, "board 2;drags:1+^[1=1];");
            Edge.fault(2, "board 2;drags:(^not 1=1);");
            Edge.fault(2, "board 2;drags:1 ^and 1=1;");
            Edge.fault(2, "board 2;drags:(1 ^or 1)=1;");
            Edge.fault(2, "board 2;drags:[1=1]^1;");
            Edge.fault(2, "board 2;drags:1=1 ^not 1=1;");
            Edge.fault(2, "board 2;drags:[1=1]^[1=1];");
            Edge.fault(2, "board 2;costs:(1)^(1);");
            Edge.fault(2, "board 2;costs:^[1];");
            Edge.fault(2, "board 2;goes:1^=1;");
            Edge.fault(2, "board 2;goes:1^>1;");
        });
        Edge.of(4, "2 no sign ahead of a number", () -> {
            Edge.fault(2, "board 2;costs:^-1;");
            Edge.fault(2, "board 2;costs:^+1;");
            Edge.fault(2, "board 2;costs:1-^-1;");
            Edge.fault(2, "board 2;costs:2*^-1;");
            Edge.fault(2, "board 2;costs:^*1;");
            Edge.fault(2, "board ^-2;");
            Edge.fault(2, "board 2;member 0 faces ^-1;");
        });
        Edge.of(4, "2 : behind a law's word alone", () -> {
            Edge.fault(2, "board^:2;");
            Edge.fault(2, "board 2;member^:0;");
            Edge.fault(2, "board 2;costs ^1;");
            Edge.fault(2, "board 2;costs:^:1;");
            Edge.fault(2, "board 2;costs:1^:1;");
            Edge.fault(2, "board 2;costs^;");
        });
        Edge.of(4, "2 a FLAG's number is one", () -> {
            Edge.fault(2, "board 2;member 0 faces 1 ^1;");
            Edge.fault(2, "board 2;member 0 weight 1 ^1;");
            Edge.fault(2, "board 2;member 0 stuck ^1;");
            Edge.fault(2, "board 2;member 0 ^1;");
            Edge.fault(2, "board 2;member 0 faces ^stuck;");
            Edge.fault(2, "board 2;member 0 weight ^faces 1;");
            Edge.fault(2, "board 2;member 0 ^member 1;");
            Edge.fault(2, "board 2;member 0 ^aim 1;");
        });
    }

    private static void faultThree() {
        Edge.of(4, "3 N is out of its bounds", () -> {
            Edge.fault(3, "board ^1;");
            Edge.fault(3, "board  ^007;");
            Edge.fault(3, "board 3;member ^3;");
            Edge.fault(3, "board 3;member 2 faces ^3;");
            Edge.fault(3, "board 3;member 2 weight ^0;");
            Edge.fault(3, "board 3;member 2 weight 9 weight ^10;");
        });
        Edge.of(4, "3 no bounds for a law's numbers", () ->
            Edge.fine("board 2;drags:999>0;costs:0;goes:999;", 4));
        Edge.of(4, "3 ahead of what is wrong behind it", () -> {
            Edge.fault(3, "board ^9 9");
            Edge.fault(3, "board ^9");
            Edge.fault(3, "board 2;member ^2 member");
            Edge.fault(3, "board 2;member 0 faces ^2 !");
        });
    }

    private static void faultFour() {
        Edge.of(4, "4 a seventh of not", () -> {
            Edge.fine("board 2;drags:not not not not not not 1=1;", 2);
            Edge.fault(4, "board 2;drags:not not not not not not ^not 1=1;");
        });
        Edge.of(4, "4 a seventh of [", () -> {
            Edge.fine("board 2;drags:[[[[[[1=1]]]]]];", 2);
            Edge.fault(4, "board 2;drags:[[[[[[^[1=1]]]]]]];");
        });
        Edge.of(4, "4 a seventh of (", () -> {
            Edge.fine("board 2;drags:((((((1))))))=((((((1))))));", 2);
            Edge.fine("board 2;costs:((((((1))))));goes:((((((1))))));", 3);
            Edge.fault(4, "board 2;drags:((((((^(1)))))))=1;");
            Edge.fault(4, "board 2;drags:1=((((((^(1)))))));");
            Edge.fault(4, "board 2;costs:((((((^(1)))))));");
            Edge.fault(4, "board 2;goes:((((((^(1)))))));");
        });
        Edge.of(4, "4 within one another, whichever they are", () -> {
            Edge.fine("board 2;drags:not[not[((1))=1]];", 2);
            Edge.fault(4, "board 2;drags:not[not[((^(1)))=1]];");
            Edge.fault(4, "board 2;drags:not[not[not[^(1)=1]]];");
            Edge.fault(4, "board 2;drags:not[not[not[^not 1=1]]];");
            Edge.fault(4, "board 2;drags:not[not[not[^[1=1]]]];");
            Edge.fault(4, "board 2;drags:not not not not not not 1=1+2*^(1);");
            Edge.fault(4, "board 2;drags:[[[[[[1=1 and 1=1 or ^not 1=1]]]]]];");
            Edge.fault(4, "board 2;drags:[[[[[[1=^(1)]]]]]];");
        });
    }

    private static void faultFourGivenBack() {
        Edge.of(4, "4 only those within one another: ) and ] give back", () -> {
            Edge.fine("board 2;drags:[1=1]and[1=1]and[1=1]and[1=1]and[1=1]and[1=1]and[1=1];", 2);
            Edge.fine("board 2;costs:(1)+(1)+(1)*(1)-(1)*(1)+(1)-(1);", 2);
            Edge.fine("board 2;drags:[[[[[[1=1]]]]]]or[[[[[[1=1]]]]]];", 2);
            Edge.fault(4, "board 2;drags:[[[[[[1=1]]]]]]or[[[[[[^[1=1]]]]]]];");
            Edge.fine("board 2;costs:((((((1)))+(((1))))));", 2);
            Edge.fault(4, "board 2;costs:((((((1)))+(((^(1)))))));");
        });
        Edge.of(4, "4 only those within one another: not gives back behind its UNIT", () -> {
            Edge.fine("board 2;drags:not 1=1 and not 1=1 or not 1=1 and not 1=1 or not 1=1 and not 1=1 or not 1=1;", 2);
            Edge.fine("board 2;drags:not not not not not not 1=1 or not not not not not not 1=1;", 2);
            Edge.fine("board 2;drags:not not not not not[1=1]and[[[[[[1=1]]]]]];", 2);
            Edge.fine("board 2;drags:[not[not 1=1]and not[not[not 1=1]]];", 2);
            Edge.fault(4, "board 2;drags:[not[not 1=1]and not[not[not^[1=1]]]];");
            Edge.fine("board 2;drags:not not not not not(1)=(1);", 2);
            Edge.fault(4, "board 2;drags:not not not not not(1)=(^(1));");
        });
        Edge.of(4, "4 in each law anew", () ->
            Edge.fine("board 2;drags:not not not not not not 1=1;costs:((((((1))))));goes:((((((1))))));"
                + "drags:[[[[[[1=1]]]]]];", 5));
        Edge.of(4, "of one TOKEN the least kind: 2 ahead of 4", () -> {
            Edge.fault(2, "board 2;drags:not not not not not not 1^(1)=1;");
            Edge.fault(2, "board 2;drags:[[[[[[1=1^[;");
            Edge.fault(2, "board 2;drags:((((((^not 1;");
            Edge.fault(2, "board 2;drags:((((((^[1;");
            Edge.fault(2, "board 2;costs:((((((^[;");
            Edge.fault(2, "board 2;goes:((((((1 ^not;");
        });
    }

    private static void faultOrder() {
        Edge.of(4, "FAULTS, the first along the text", () -> {
            Edge.fault(3, "board ^8;member 9;!");
            Edge.fault(2, "board 2;^foo 12345;!");
            Edge.fault(1, "board 2;^!member 9;;");
            Edge.fault(3, "board 2;member ^5 faces 9 foo;");
            Edge.fault(4, "board 2;goes:((((((^(((1]!;");
            Edge.fault(2, "board 2;goes:1;^; 12345");
        });
    }

    private static void faultCall() {
        Edge.of(4, "0 without, and at first; its place NONE without", () -> {
            SwivelBoard x = new SwivelBoard();
            Edge.is("fault(0)", x.fault(0), 0);
            Edge.is("fault(1)", x.fault(1), -1);
            Due.load(x, "board 9;");
            Due.load(x, "board 2;");
            Edge.is("fault(0) behind a fine one", x.fault(0), 0);
            Edge.is("fault(1) behind a fine one", x.fault(1), -1);
        });
        Edge.of(4, "of the latest board()", () -> {
            SwivelBoard x = new SwivelBoard();
            Due.load(x, "board 9;");
            Due.load(x, "board 2;  !");
            Edge.is("fault(0)", x.fault(0), 1);
            Edge.is("fault(1)", x.fault(1), 10);
        });
        Edge.of(4, "that threw nothing", () -> {
            SwivelBoard x = new SwivelBoard();
            Due.load(x, "board 9;");
            Edge.fails("board(1)", Due.ARGUMENT, () -> x.board(1));
            Edge.fails("board(-1)", Due.ARGUMENT, () -> x.board(-1));
            Edge.is("fault(0)", x.fault(0), 3);
            Edge.is("fault(1)", x.fault(1), 6);
            Due.load(x, "board 2;");
            Edge.fails("board(1)", Due.ARGUMENT, () -> x.board(1));
            Edge.is("fault(0) without", x.fault(0), 0);
        });
        Edge.of(4, "NONE for others", () -> {
            SwivelBoard x = new SwivelBoard();
            Due.load(x, "board 9;");
            int[] others = {-1, 2, 3, Integer.MIN_VALUE, Integer.MAX_VALUE};
            for (int what : others) {
                Edge.is("fault(" + what + ")", x.fault(what), -1);
            }
        });
        Edge.of(4, "the FAULT stays behind deeds and images", () -> {
            SwivelBoard x = new SwivelBoard();
            x.image(0);
            Due.load(x, "board 9;");
            x.turn(0, 1);
            x.restore(0);
            Edge.is("fault(0)", x.fault(0), 3);
            Edge.is("fault(1)", x.fault(1), 6);
        });
    }
}
