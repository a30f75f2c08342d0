/** Promises 38 to 43 at their boundaries: trays, images, counts. */
public final class EdgeTrayTest {
    private static final int[] NO_TRAY = {-1, 4, 5, Integer.MIN_VALUE, Integer.MAX_VALUE};
    private static final int[] NO_IMAGE = {-1, 3, 4, 31, 32, Integer.MIN_VALUE, Integer.MAX_VALUE};
    private static final String THREE = "board 3;member 0 faces 2 weight 4;member 2 faces 1 stuck;"
        + "drags:other>who;costs:7-who;goes:aim+votes+1;";

    public static void main(String[] args) {
        tray();
        trayAnew();
        write();
        writeCuts();
        copy();
        image();
        restore();
        restoreAll();
        count();
        Edge.end(38, 43);
    }

    private static void tray() {
        Edge.of(38, "no such TRAY (0 to 3), ahead of all else", () -> {
            SwivelBoard x = new SwivelBoard();
            for (int t : NO_TRAY) {
                Edge.failsDeed("tray(" + t + ", 0, 0)", Due.NO_ELEMENT, () -> x.tray(t, 0, 0));
                Edge.failsDeed("tray(" + t + ", 4, 31)", Due.NO_ELEMENT, () -> x.tray(t, 4, 31));
            }
            for (int t = 0; t < 4; t++) {
                x.tray(t, 0, 1);
                Edge.is("write(" + t + ", 0, 5)", x.write(t, 0, 5), 5);
            }
        });
        Edge.of(38, "no such sort (0 to 3)", () -> {
            SwivelBoard x = new SwivelBoard();
            int[] wrong = {-1, 4, 8, Integer.MIN_VALUE, Integer.MAX_VALUE};
            for (int sort : wrong) {
                Edge.failsDeed("tray(0, " + sort + ", 1)", Due.ARGUMENT, () -> x.tray(0, sort, 1));
            }
            Edge.fails("it is still MISSING", Due.STATE, () -> x.judge(0, 0));
            for (int sort = 0; sort < 4; sort++) {
                x.tray(0, sort, 1);
                Edge.is("write", x.write(0, 0, 100), 100);
            }
        });
        Edge.of(38, "not so many (0 to 30)", () -> {
            SwivelBoard x = new SwivelBoard();
            int[] wrong = {-1, 31, 32, Integer.MIN_VALUE, Integer.MAX_VALUE};
            for (int many : wrong) {
                Edge.failsDeed("tray(1, 2, " + many + ")", Due.ARGUMENT, () -> x.tray(1, 2, many));
            }
            Edge.fails("it is still MISSING", Due.STATE, () -> x.judge(1, 0));
            x.tray(1, 2, 30);
            Edge.is("the last of 30", x.write(1, 29, 5), 5);
            x.tray(1, 2, 1);
            Edge.is("the only one", x.write(1, 0, 5), 5);
            x.tray(1, 2, 0);
            Edge.fails("none", Due.INDEX, () -> x.write(1, 0, 5));
            Edge.is("it isn't MISSING", x.judge(1, 0), -1);
        });
        Edge.of(38, "one that was refused leaves the row as it was", () -> {
            SwivelBoard x = Due.of("board 3;");
            Due.row(x, 0, 1, 1, 2, -1);
            Edge.failsDeed("tray(0, 4, 1)", Due.ARGUMENT, () -> x.tray(0, 4, 1));
            Edge.failsDeed("tray(0, 0, 31)", Due.ARGUMENT, () -> x.tray(0, 0, 31));
            Edge.is("cheapest(0, 0)", x.cheapest(0, 0), 3);
            Edge.is("its sort", x.write(0, 0, 300), 300);
        });
    }

    private static void trayAnew() {
        Edge.of(38, "a row of so many 0s, again too", () -> {
            SwivelBoard x = Due.of("board 6;");
            x.tray(0, 1, 30);
            for (int i = 0; i < 30; i++) {
                x.write(0, i, 1);
            }
            Edge.is("thirty turns", x.judge(0, 0), -1);
            x.tray(0, 1, 30);
            for (int place = 0; place < 30; place++) {
                // What was written ahead of it can be; a 0 at it can't.
                Edge.is("judge(0, 0)", x.judge(0, 0), place);
                x.write(0, place, 1);
            }
            Edge.is("judge(0, 0)", x.judge(0, 0), -1);
        });
        Edge.of(38, "smaller, then as great again: 0s at the end too", () -> {
            SwivelBoard x = Due.of("board 6;");
            Due.row(x, 0, 0, 1, 2, 3, 4, 5, 5);
            x.tray(0, 0, 2);
            x.tray(0, 0, 6);
            Edge.is("cheapest(0, 0)", x.cheapest(0, 0), 0);
        });
        Edge.of(38, "of another sort", () -> {
            SwivelBoard x = new SwivelBoard();
            x.tray(0, 3, 1);
            Edge.is("64 bits", x.write(0, 0, 1L << 40), 1L << 40);
            x.tray(0, 0, 1);
            Edge.is("8 bits", x.write(0, 0, 1L << 40), 0);
            x.tray(0, 2, 1);
            Edge.is("32 bits", x.write(0, 0, 1L << 31), -(1L << 31));
        });
        Edge.of(38, "each TRAY is its own", () -> {
            SwivelBoard x = Due.of("board 2;");
            for (int t = 0; t < 4; t++) {
                Due.row(x, t, t, t % 2, t / 2);
            }
            for (int t = 0; t < 4; t++) {
                Edge.is("cheapest(" + t + ", 0)", x.cheapest(t, 0), t % 2 + t / 2);
            }
        });
    }

    private static void write() {
        Edge.of(39, "no such TRAY, ahead of all else", () -> {
            SwivelBoard x = new SwivelBoard();
            for (int t : NO_TRAY) {
                Edge.fails("write(" + t + ", 0, 0)", Due.NO_ELEMENT, () -> x.write(t, 0, 0));
                Edge.fails("write(" + t + ", -1, 0)", Due.NO_ELEMENT, () -> x.write(t, -1, 0));
            }
        });
        Edge.of(39, "it is MISSING, ahead of its places", () -> {
            SwivelBoard x = new SwivelBoard();
            for (int t = 0; t < 4; t++) {
                int tray = t;
                Edge.fails("write(" + t + ", 0, 0)", Due.STATE, () -> x.write(tray, 0, 0));
                Edge.fails("write(" + t + ", -1, 0)", Due.STATE, () -> x.write(tray, -1, 0));
                Edge.fails("write(" + t + ", 30, 0)", Due.STATE, () -> x.write(tray, 30, 0));
            }
        });
        Edge.of(39, "it has no such place", () -> {
            SwivelBoard x = new SwivelBoard();
            for (int many = 0; many <= 30; many++) {
                int places = many;
                x.tray(0, 1, many);
                Edge.fails("write(0, " + many + ", 1)", Due.INDEX, () -> x.write(0, places, 1));
                Edge.fails("write(0, -1, 1)", Due.INDEX, () -> x.write(0, -1, 1));
                if (many > 0) {
                    Edge.is("write(0, 0, 1)", x.write(0, 0, 1), 1);
                    Edge.is("write(0, " + (many - 1) + ", 1)", x.write(0, many - 1, 1), 1);
                }
            }
            Edge.fails("write(0, MIN, 1)", Due.INDEX, () -> x.write(0, Integer.MIN_VALUE, 1));
            Edge.fails("write(0, MAX, 1)", Due.INDEX, () -> x.write(0, Integer.MAX_VALUE, 1));
        });
        Edge.of(39, "comes to its place, and stays there", () -> {
            SwivelBoard x = Due.of("board 6;");
            x.tray(0, 0, 6);
            for (int i = 0; i < 6; i++) {
                x.write(0, i, 5 - i);
            }
            x.write(0, 2, 0);
            for (int m = 0; m < 6; m++) {
                Edge.is("cheapest(0, " + (10 + m) + ")", x.cheapest(0, 10 + m), m == 2 ? 0 : 5 - m);
            }
            x.tray(1, 1, 30);
            for (int i = 0; i < 30; i++) {
                x.write(1, i, 11);
            }
            x.write(1, 29, 0);
            Edge.is("the last of 30", x.judge(1, 0), 29);
            x.write(1, 0, 0);
            Edge.is("the first of 30", x.judge(1, 0), 0);
        });
    }

    private static void writeCuts() {
        long[] v = {0, 1, -1, 127, 128, 129, 255, 256, 257, -128, -129, 32767, 32768, 65535, 65536, -32768, -32769,
            2147483647L, 2147483648L, 4294967295L, 4294967296L, -2147483648L, -2147483649L, Long.MAX_VALUE, Long.MIN_VALUE};
        Edge.of(39, "cut to its sort: 8 bits (sort 0)", () -> {
            long[] due = {0, 1, -1, 127, -128, -127, -1, 0, 1, -128, 127, -1, 0, -1, 0, 0, -1, -1, 0, -1, 0, 0, -1, -1, 0};
            cuts(0, v, due);
        });
        Edge.of(39, "cut to its sort: 16 (1)", () -> {
            long[] due = {0, 1, -1, 127, 128, 129, 255, 256, 257, -128, -129, 32767, -32768, -1, 0, -32768, 32767,
                -1, 0, -1, 0, 0, -1, -1, 0};
            cuts(1, v, due);
        });
        Edge.of(39, "cut to its sort: 32 (2)", () -> {
            long[] due = {0, 1, -1, 127, 128, 129, 255, 256, 257, -128, -129, 32767, 32768, 65535, 65536, -32768, -32769,
                2147483647L, -2147483648L, -1, 0, -2147483648L, 2147483647L, -1, 0};
            cuts(2, v, due);
        });
        Edge.of(39, "cut to its sort: 64 (3)", () -> cuts(3, v, v));
        Edge.of(39, "as it is there: a TOLD DEED is what was cut", () -> {
            SwivelBoard x = Due.of("board 2;goes:1;");
            Due.row(x, 0, 0, 257);
            Edge.is("1: member 0 by 1", x.perform(0), 1);
            Edge.aims(x, 1, 0);
            Due.row(x, 0, 0, 255);
            Edge.is("-1: a minute", x.perform(0), 1);
            Edge.aims(x, 0, 1);
            Due.row(x, 0, 0, 200);
            Edge.is("-56: none", x.judge(0, 1), 1);
            Due.row(x, 0, 1, 200);
            Edge.is("200: to stick 0", x.judge(0, 3), 1);
            Due.row(x, 0, 2, (1L << 32) + 201);
            Edge.is("201: to stick 1", x.judge(0, 3), 2);
            Due.row(x, 0, 3, (1L << 32) + 201);
            Edge.is("more than 299", x.judge(0, 1), 1);
        });
    }

    private static void cuts(int sort, long[] v, long[] due) {
        SwivelBoard x = new SwivelBoard();
        x.tray(sort, sort, 30);
        for (int i = 0; i < v.length; i++) {
            Edge.is("write of " + v[i], x.write(sort, i, v[i]), due[i]);
        }
    }

    private static void copy() {
        Edge.of(40, "no such TRAY; it is MISSING; n: in this order", () -> {
            SwivelBoard x = Due.of(THREE);
            for (int t : NO_TRAY) {
                Edge.fails("copy(" + t + ", 0)", Due.NO_ELEMENT, () -> x.copy(t, 0));
                Edge.fails("copy(" + t + ", -1)", Due.NO_ELEMENT, () -> x.copy(t, -1));
            }
            for (int t = 0; t < 4; t++) {
                int tray = t;
                Edge.fails("copy(" + t + ", 0)", Due.STATE, () -> x.copy(tray, 0));
                Edge.fails("copy(" + t + ", -1)", Due.STATE, () -> x.copy(tray, -1));
            }
            Due.row(x, 0, 0, 1, 2, -1);
            int[] wrong = {-1, 100_000, Integer.MIN_VALUE, Integer.MAX_VALUE};
            for (int n : wrong) {
                Edge.fails("copy(0, " + n + ")", Due.ARGUMENT, () -> x.copy(0, n));
            }
            // From 2 0 1 to 1 2 .. : 0 by 2, which drags 1 to 2.
            Edge.is("the row is as it was", x.cheapest(0, 0), 14);
        });
        Edge.of(40, "as many as it has places: how many", () -> {
            SwivelBoard x = Due.of(THREE);
            int[] places = {0, 1, 2, 3, 4, 30};
            int[] due = {0, 1, 2, 3, 3, 3};
            for (int i = 0; i < places.length; i++) {
                x.tray(0, 0, places[i]);
                Edge.is("copy to " + places[i], x.copy(0, 0), due[i]);
            }
        });
        Edge.of(40, "from its first place on, the rest stays", () -> {
            SwivelBoard x = Due.of("board 2;member 0 faces 1;member 1 faces 1;");
            // Turns of 0 by 1 and 1, then what was there: 0 has weight 5, 0 is stuck, no such.
            Due.row(x, 0, 1, 77, 77, 105, 200, 999);
            Edge.is("copy(0, 0)", x.copy(0, 0), 2);
            Edge.is("judge(0, 0)", x.judge(0, 0), 4);
            Edge.is("judge(0, 3)", x.judge(0, 3), 1);
            Edge.is("nothing else is written", x.count(6), 0);
        });
        Edge.of(40, "in n MINUTES (0 to 99,999)", () -> {
            SwivelBoard x = Due.of("board 4;member 0 faces 1;member 1 stuck;goes:who+1;");
            x.tray(0, 0, 4);
            int[] when = {0, 1, 2, 3, 4, 99_998, 99_999};
            for (int n : when) {
                Edge.is("copy(0, " + n + ")", x.copy(0, n), 4);
                int[] now = {1, 0, 0, 0};
                int[] due = {(1 + n) % 4, 0, 3 * n % 4, 4 * n % 4};
                for (int m = 0; m < 4; m++) {
                    Edge.is("place " + m + " behind " + n, x.cheapest(0, 10 + m), (due[m] - now[m] + 4) % 4);
                }
            }
        });
        Edge.of(40, "into a row of each sort", () -> {
            for (int sort = 0; sort < 4; sort++) {
                SwivelBoard x = Due.of("board 6;member 0 faces 5;");
                x.tray(3, sort, 6);
                x.copy(3, 7);
                Edge.is("sort " + sort, x.cheapest(3, 0), 0);
                Edge.is("sort " + sort, x.ways(3), 1);
            }
        });
    }

    private static void image() {
        Edge.of(41, "no such one (0 to 2)", () -> {
            SwivelBoard x = Due.of(THREE);
            String before = Due.view(x);
            for (int i : NO_IMAGE) {
                Edge.failsDeed("image(" + i + ")", Due.NO_ELEMENT, () -> x.image(i));
            }
            Edge.unchanged("image", before, x);
            for (int i = 0; i < 3; i++) {
                int image = i;
                Edge.failsDeed("none was made", Due.STATE, () -> x.restore(image));
            }
        });
        Edge.of(41, "each is its own", () -> {
            SwivelBoard x = Due.of("board 4;");
            for (int i = 0; i < 3; i++) {
                x.image(i);
                x.turn(0, 1);
            }
            for (int i = 2; i >= 0; i--) {
                x.restore(i);
                Edge.is("restore(" + i + ")", x.member(0, 0), i);
                Edge.is("restore(" + i + ")", x.count(6), i);
            }
        });
        Edge.of(41, "made anew it is another one", () -> {
            SwivelBoard x = Due.of("board 4;");
            x.image(1);
            x.turn(0, 1);
            x.image(1);
            x.turn(0, 1);
            x.restore(1);
            Edge.is("restore(1)", x.member(0, 0), 1);
        });
        Edge.of(41, "a new object has an IMAGE too", () -> {
            SwivelBoard x = new SwivelBoard();
            x.image(0);
            Due.load(x, THREE);
            x.restore(0);
            Edge.is("count(1)", x.count(1), 2);
            Edge.is("count(0)", x.count(0), 0);
        });
    }

    private static void restore() {
        Edge.of(42, "no such one, ahead of none was made", () -> {
            SwivelBoard x = Due.of(THREE);
            for (int i : NO_IMAGE) {
                Edge.failsDeed("restore(" + i + ")", Due.NO_ELEMENT, () -> x.restore(i));
            }
            x.image(0);
            for (int i : NO_IMAGE) {
                Edge.failsDeed("restore(" + i + ")", Due.NO_ELEMENT, () -> x.restore(i));
            }
        });
        Edge.of(42, "none was made", () -> {
            for (int made = 0; made < 3; made++) {
                SwivelBoard x = Due.of(THREE);
                x.image(made);
                x.turn(0, 1);
                String before = Due.view(x);
                for (int i = 0; i < 3; i++) {
                    int image = i;
                    if (i != made) {
                        Edge.failsDeed("restore(" + i + ")", Due.STATE, () -> x.restore(image));
                    }
                }
                Edge.unchanged("restore", before, x);
                x.restore(made);
                Edge.unchanged("restore(" + made + ")", Due.view(Due.of(THREE)), x);
            }
        });
        Edge.of(42, "time and again", () -> {
            SwivelBoard x = Due.of(THREE);
            x.turn(0, 1);
            String then = Due.view(x);
            x.image(2);
            for (int i = 0; i < 3; i++) {
                x.session(i, 20);
                x.restore(2);
                Edge.unchanged("restore(2)", then, x);
            }
        });
    }

    private static void restoreAll() {
        Edge.of(42, "all is as in an IMAGE: MEMBERS, AIMS, WEIGHTS, who is STUCK, laws, LINES", () -> {
            SwivelBoard x = Due.of(THREE);
            String then = Due.view(x);
            x.image(0);
            String[] others = {"board 6;member 0 faces 5;member 3 weight 9 stuck;drags:1=1;costs:50;goes:3;", "board 2;"};
            for (String o : others) {
                Due.load(x, o);
                x.restore(0);
                Edge.unchanged("restore(0) behind " + o, then, x);
            }
        });
        Edge.of(42, "DEEDS can be UNDONE as then: ten of them", () -> {
            SwivelBoard x = Due.of("board 6;");
            for (int i = 1; i <= 9; i++) {
                x.weigh(0, i);
            }
            x.weigh(1, 9);
            x.image(0);
            for (int i = 0; i < 10; i++) {
                x.turn(2, 1);
            }
            x.restore(0);
            Edge.is("count(6)", x.count(6), 10);
            Edge.is("undo(1)", x.undo(1), 9);
            Edge.weights(x, 9, 1, 1, 1, 1, 1);
            for (int i = 8; i >= 0; i--) {
                Edge.is("undo(1)", x.undo(1), i);
                Edge.weights(x, Math.max(i, 1), 1, 1, 1, 1, 1);
            }
            Edge.aims(x, 0, 0, 0, 0, 0, 0);
        });
        Edge.of(42, "DEEDS that were UNDONE since are there again", () -> {
            SwivelBoard x = Due.of("board 3;");
            x.turn(0, 1);
            x.turn(1, 1);
            x.image(0);
            x.undo(2);
            x.weigh(2, 9);
            x.restore(0);
            Edge.aims(x, 1, 1, 0);
            Edge.is("undo(1)", x.undo(1), 1);
            Edge.aims(x, 1, 0, 0);
            Edge.is("undo(1)", x.undo(1), 0);
            Edge.aims(x, 0, 0, 0);
            Edge.weights(x, 1, 1, 1);
            x.restore(0);
            Edge.is("the image has them still", x.undo(2), 0);
        });
        Edge.of(42, "to restore is no DEED", () -> {
            SwivelBoard x = Due.of("board 3;");
            x.image(0);
            x.turn(0, 1);
            x.restore(0);
            Edge.fails("undo(1)", Due.ARGUMENT, () -> x.undo(1));
        });
        Edge.of(42, "all but the tape, the FAULT and TRAYS", () -> {
            SwivelBoard x = Due.of(THREE);
            Due.row(x, 0, 0, 1, 1, 1);
            x.image(0);
            Due.load(x, "board 2;member ");
            x.feed(0, 0, 0, 0, 0);
            Due.row(x, 0, 0, -1, -1, -1);
            x.tray(1, 0, 0);
            x.restore(0);
            Edge.is("count(7)", x.count(7), 20);
            Edge.is("fault(0)", x.fault(0), 2);
            Edge.is("fault(1)", x.fault(1), 15);
            Edge.is("a tray's numbers", x.cheapest(0, 0), 0);
            Edge.is("a tray that was MISSING", x.perform(1), 0);
        });
        Edge.of(42, "other IMAGES stay", () -> {
            SwivelBoard x = Due.of("board 3;");
            x.image(0);
            x.turn(0, 1);
            x.image(1);
            x.restore(0);
            Edge.aims(x, 0, 0, 0);
            x.restore(1);
            Edge.aims(x, 1, 0, 0);
        });
    }

    private static void count() {
        Edge.of(43, "NONE for others", () -> {
            SwivelBoard x = Due.of(THREE);
            int[] others = {-1, 8, 9, Integer.MIN_VALUE, Integer.MAX_VALUE};
            for (int what : others) {
                Edge.is("count(" + what + ")", x.count(what), -1);
            }
        });
        Edge.of(43, "0 LINES: none, one, many", () -> {
            Edge.is("none", new SwivelBoard().count(0), 0);
            Edge.is("one", Due.of("board 2;").count(0), 1);
            Edge.is("128", Due.of("board 2;" + "goes:0;".repeat(127)).count(0), 128);
        });
        Edge.of(43, "2 who is STUCK, 3 who looks OUT, as bits: none, all", () -> {
            SwivelBoard x = Due.of("board 6;");
            Edge.is("count(2)", x.count(2), 0);
            Edge.is("count(3)", x.count(3), 63);
            for (int m = 0; m < 6; m++) {
                x.turn(m, 5);
                x.stick(m);
                Edge.is("count(2)", x.count(2), (2 << m) - 1);
                Edge.is("count(3)", x.count(3), 64 - (2 << m));
            }
        });
        Edge.of(43, "4 twos KNEE TO KNEE: none, half the MEMBERS", () -> {
            Edge.is("none", new SwivelBoard().count(4), 0);
            Edge.is("one", Due.of("board 2;member 0 faces 1;member 1 faces 1;").count(4), 1);
            Edge.is("one of three", Due.of("board 3;member 0 faces 1;member 1 faces 2;member 2 faces 1;").count(4), 1);
            Edge.is("three", Due.of("board 6;member 0 faces 3;member 1 faces 3;member 2 faces 3;member 3 faces 3;"
                + "member 4 faces 3;member 5 faces 3;").count(4), 3);
            Edge.is("three across the seam", Due.of("board 6;member 0 faces 5;member 5 faces 1;member 1 faces 1;"
                + "member 2 faces 5;member 3 faces 1;member 4 faces 5;").count(4), 3);
            Edge.is("one who faces, one who doesn't", Due.of("board 2;member 0 faces 1;").count(4), 0);
        });
        Edge.of(43, "5 WEIGHTS together: the least, the most", () -> {
            Edge.is("the least", new SwivelBoard().count(5), 2);
            SwivelBoard x = Due.of("board 6;");
            for (int m = 0; m < 6; m++) {
                x.weigh(m, 9);
            }
            Edge.is("the most", x.count(5), 54);
        });
        Edge.of(43, "6 DEEDS that can be UNDONE: 0 to 10", () -> {
            SwivelBoard x = new SwivelBoard();
            for (int i = 0; i < 12; i++) {
                Edge.is("count(6)", x.count(6), Math.min(i, 10));
                x.stick(1);
            }
            x.undo(10);
            Edge.is("count(6)", x.count(6), 0);
        });
        Edge.of(43, "7 bytes on the tape: 0 to 900", () -> {
            SwivelBoard x = new SwivelBoard();
            for (int i = 0; i <= 46; i++) {
                Edge.is("count(7)", x.count(7), Math.min(20 * i, 900));
                x.feed(0, 0, 0, 0, 0);
            }
            x.board(1);
            Edge.is("count(7)", x.count(7), 0);
        });
        Edge.of(43, "1 MEMBERS: 2 to 6", () -> {
            for (int n = 2; n <= 6; n++) {
                Edge.is("count(1)", Due.of("board " + n + ";").count(1), n);
            }
        });
    }
}
