/** Promises 28 to 43: by itself, seen, chances, trays and images. Answers are reckoned by hand. */
public final class LaterTest {
    /** Aims 2 3 0 1, weights 1 2 1 5, the last is stuck; each drags the next; 0 has the chair by 7 votes. */
    private static final String FOUR = "board 4;member 0 faces 2;member 1 faces 3 weight 2;"
        + "member 3 faces 1 weight 5 stuck;drags:other=who+1 or other+3=who;costs:weight*3;goes:aim+1;";
    private static final String SWINGS = "board 2;member 0 faces 1;goes:1;";
    private static final String FADES = "board 2;member 0 faces 1;member 1 stuck;goes:aim;";

    public static void main(String[] args) {
        settles();
        ahead();
        reign();
        first();
        seen();
        ask();
        chance();
        likeliest();
        trays();
        copy();
        images();
        count();
        Due.end();
    }

    private static void settles() {
        SwivelBoard x = Due.of(FOUR);
        Due.is(28, "aims 2 3 0, 1 3 1, 3 3 3", x.settles(0), 2);
        Due.is(28, "the last stays", x.settles(1), 1);
        Due.is(28, "no tail", Due.of(SWINGS).settles(0), 0);
        Due.is(28, "round", Due.of(SWINGS).settles(1), 2);
        Due.is(28, "without a law", new SwivelBoard().settles(1), 1);
        // Each turns by its number: 0, 1 .. 5, which come home in 1, 6, 3, 2, 3, 6.
        Due.is(28, "six", Due.of("board 6;goes:who;").settles(1), 6);
        Due.is(28, "five", Due.of("board 5;member 2 stuck;goes:who;").settles(1), 5);
        Due.is(28, "it isn't done", x.member(0, 0), 2);
        Due.fails(28, "settles(2)", Due.ARGUMENT, () -> x.settles(2));
        Due.fails(28, "settles(-1)", Due.ARGUMENT, () -> x.settles(-1));
    }

    private static void ahead() {
        SwivelBoard x = Due.of(SWINGS);
        Due.is(29, "chairIn(0)", x.chairIn(0), 1);
        Due.is(29, "chairIn(1)", x.chairIn(1), 0);
        Due.is(29, "chairIn(99999)", x.chairIn(99999), 0);
        Due.is(29, "chairIn(99998)", x.chairIn(99998), 1);
        Due.is(29, "nobody", Due.of(FADES).chairIn(1), -1);
        Due.fails(29, "chairIn(100000)", Due.ARGUMENT, () -> x.chairIn(100000));
        Due.fails(29, "chairIn(-1)", Due.ARGUMENT, () -> x.chairIn(-1));
        SwivelBoard y = Due.of(FOUR);
        int[][] aims = {{2, 1, 3, 3}, {3, 3, 3, 3}, {0, 1, 3, 3}, {1, 1, 1, 1}};
        int[] when = {0, 1, 2, 99999};
        for (int m = 0; m < 4; m++) {
            for (int i = 0; i < 4; i++) {
                Due.is(30, "aimIn(" + m + ", " + when[i] + ")", y.aimIn(m, when[i]), aims[m][i]);
            }
        }
        Due.fails(30, "aimIn(4, -1)", Due.NO_ELEMENT, () -> y.aimIn(4, -1));
        Due.fails(30, "aimIn(-1, 0)", Due.NO_ELEMENT, () -> y.aimIn(-1, 0));
        Due.fails(30, "aimIn(0, 100000)", Due.ARGUMENT, () -> y.aimIn(0, 100000));
        Due.fails(30, "aimIn(0, -1)", Due.ARGUMENT, () -> y.aimIn(0, -1));
        y.turn(0, 1);
        Due.is(30, "behind a turn: 3 stays 3", y.aimIn(0, 1), 3);
        y.stick(1);
        y.stick(0);
        Due.is(30, "stuck", y.aimIn(0, 5), 3);
    }

    private static void reign() {
        SwivelBoard x = Due.of(SWINGS);
        Due.is(31, "0, 2, 4", x.reign(1, 4), 3);
        Due.is(31, "1, 3", x.reign(0, 4), 2);
        Due.is(31, "now", x.reign(1, 0), 1);
        Due.is(31, "reign(0, 9999)", x.reign(0, 9999), 5000);
        Due.is(31, "in the tail alone", Due.of(FADES).reign(1, 9999), 1);
        Due.is(31, "always", Due.of(FOUR).reign(0, 9999), 10000);
        Due.fails(31, "reign(2, -1)", Due.NO_ELEMENT, () -> x.reign(2, -1));
        Due.fails(31, "reign(0, 10000)", Due.ARGUMENT, () -> x.reign(0, 10000));
        Due.fails(31, "reign(0, -1)", Due.ARGUMENT, () -> x.reign(0, -1));
    }

    private static void first() {
        SwivelBoard x = Due.of(SWINGS);
        Due.is(32, "now", x.first(1), 0);
        Due.is(32, "in 1", x.first(0), 1);
        Due.is(32, "never", Due.of(FADES).first(0), -1);
        // 1 has the chair while 0 turns to face 2: aims 1, 2, 0, 1 ..
        SwivelBoard y = Due.of("board 3;member 0 faces 2;member 1 stuck;member 2 stuck;goes:1;");
        Due.is(32, "in 2", y.first(1), 2);
        Due.fails(32, "first(2)", Due.NO_ELEMENT, () -> x.first(2));
        Due.fails(32, "first(-1)", Due.NO_ELEMENT, () -> x.first(-1));
    }

    private static void seen() {
        SwivelBoard x = Due.of(FOUR);
        Due.row(x, 0, 0, -1, -1, 1, -1);
        Due.is(33, "by 1 or by 2", x.seen(0), 2);
        Due.is(34, "seenAt(0, 0)", x.seenAt(0, 0), 11);
        Due.is(34, "seenAt(0, 1)", x.seenAt(0, 1), 21);
        Due.is(34, "seenAt(0, 2)", x.seenAt(0, 2), -1);
        Due.is(34, "seenAt(0, MAX)", x.seenAt(0, Integer.MAX_VALUE), -1);
        Due.fails(34, "seenAt(0, -1)", Due.ARGUMENT, () -> x.seenAt(0, -1));
        Due.row(x, 0, 0, -1, -1, -1, -1);
        Due.is(33, "three by three", x.seen(0), 9);
        Due.is(34, "the last", x.seenAt(0, 8), 23);
        Due.row(x, 0, 0, 2, 3, 0, 1);
        Due.is(33, "no turn leaves all as it is", x.seen(0), 0);
        Due.row(x, 0, 0, -1, -1, -1, 0);
        Due.is(33, "who is stuck", x.seen(0), 0);
        SwivelBoard y = Due.of("board 6;");
        Due.row(y, 0, 0, -1, -1, -1, -1, -1, -1);
        Due.is(33, "thirty", y.seen(0), 30);
        Due.is(34, "the last of thirty", y.seenAt(0, 29), 55);
    }

    private static void ask() {
        SwivelBoard x = Due.of(FOUR);
        Due.row(x, 0, 0, -1, -1, 1, -1);
        Due.is(35, "1 tells them apart", x.ask(0), 1);
        Due.row(x, 0, 0, 2, 3, 1, 1);
        Due.is(35, "all are seen", x.ask(0), -1);
        Due.row(x, 0, 0, -1, 3, 0, 0);
        Due.is(35, "there are none", x.ask(0), -1);
        // Of 1, 2, 3, 11 .. 33 each aim is 0 but for three: any of the four is as good.
        SwivelBoard y = Due.of("board 4;");
        Due.row(y, 0, 0, -1, -1, -1, -1);
        Due.is(35, "the first", y.ask(0), 0);
        Due.row(y, 0, 0, 0, -1, -1, -1);
        Due.is(35, "the first that is any", y.ask(0), 1);
    }

    private static void odds(SwivelBoard x, int m, int n, int above, int below) {
        Due.is(36, "chance(" + m + ", " + n + ", 0)", x.chance(m, n, 0), above);
        Due.is(36, "chance(" + m + ", " + n + ", 1)", x.chance(m, n, 1), below);
    }

    private static void chance() {
        SwivelBoard x = new SwivelBoard();
        odds(x, 0, 0, 0, 1);
        odds(x, 0, 1, 1, 2);
        odds(x, 1, 1, 1, 2);
        odds(x, 0, 2, 1, 2);
        odds(x, 1, 2, 0, 1);
        odds(x, 1, 3, 1, 2);
        SwivelBoard y = Due.of("board 3;member 0 faces 2 weight 4;");
        odds(y, 2, 0, 1, 1);
        odds(y, 2, 1, 2, 3);
        odds(y, 0, 1, 0, 1);
        // Of nine: by 00 0 faces 1; by 02 and 20 0 looks out, 2 faces 0; by 01 and 10 too, but 1 faces 2.
        odds(y, 0, 2, 2, 9);
        odds(y, 1, 2, 1, 9);
        odds(y, 2, 2, 2, 3);
        SwivelBoard z = Due.of("board 2;member 0 faces 1 stuck;member 1 stuck;");
        odds(z, 1, 6, 1, 1);
        odds(z, 0, 6, 0, 1);
        // 0 isn't turned at all, 4 to the 6th, or six times.
        odds(Due.of("board 6;member 0 faces 1 weight 9;member 1 stuck;"), 1, 6, 4097, 15625);
        odds(Due.of("board 3;member 0 faces 1 stuck;member 1 stuck;"), 1, 2, 1, 1);
        odds(Due.of("board 3;member 1 stuck;member 2 stuck;"), 2, 2, 1, 1);
        Due.fails(36, "chance(2, 7, 7)", Due.NO_ELEMENT, () -> x.chance(2, 7, 7));
        Due.fails(36, "chance(0, 7, 0)", Due.ARGUMENT, () -> x.chance(0, 7, 0));
        Due.fails(36, "chance(0, -1, 0)", Due.ARGUMENT, () -> x.chance(0, -1, 0));
        Due.fails(36, "chance(0, 0, 2)", Due.ARGUMENT, () -> x.chance(0, 0, 2));
        Due.fails(36, "chance(0, 0, -1)", Due.ARGUMENT, () -> x.chance(0, 0, -1));
    }

    private static void likeliest() {
        SwivelBoard x = new SwivelBoard();
        Due.is(37, "nobody", x.likeliest(0), -1);
        Due.is(37, "the first of like ones", x.likeliest(1), 0);
        SwivelBoard y = Due.of("board 3;member 0 faces 2 weight 4;");
        Due.is(37, "likeliest(0)", y.likeliest(0), 2);
        Due.is(37, "likeliest(2)", y.likeliest(2), 2);
        Due.is(37, "all stuck", Due.of("board 2;member 0 faces 1 stuck;member 1 stuck;").likeliest(6), 1);
        Due.is(37, "all stuck, all out", Due.of("board 2;member 0 stuck;member 1 stuck;").likeliest(6), -1);
        Due.fails(37, "likeliest(7)", Due.ARGUMENT, () -> x.likeliest(7));
        Due.fails(37, "likeliest(-1)", Due.ARGUMENT, () -> x.likeliest(-1));
    }

    private static void trays() {
        SwivelBoard x = new SwivelBoard();
        Due.failsDeed(38, "tray(4, 9, 99)", Due.NO_ELEMENT, () -> x.tray(4, 9, 99));
        Due.failsDeed(38, "tray(-1, 0, 0)", Due.NO_ELEMENT, () -> x.tray(-1, 0, 0));
        Due.failsDeed(38, "tray(0, 4, 0)", Due.ARGUMENT, () -> x.tray(0, 4, 0));
        Due.failsDeed(38, "tray(0, -1, 0)", Due.ARGUMENT, () -> x.tray(0, -1, 0));
        Due.failsDeed(38, "tray(0, 0, 31)", Due.ARGUMENT, () -> x.tray(0, 0, 31));
        Due.failsDeed(38, "tray(0, 0, -1)", Due.ARGUMENT, () -> x.tray(0, 0, -1));
        Due.fails(39, "still missing", Due.STATE, () -> x.write(0, 0, 0));
        Due.fails(39, "write(4, 99, 0)", Due.NO_ELEMENT, () -> x.write(4, 99, 0));
        Due.fails(39, "write(-1, 0, 0)", Due.NO_ELEMENT, () -> x.write(-1, 0, 0));
        Due.fails(39, "write(0, 99, 0)", Due.STATE, () -> x.write(0, 99, 0));
        long[] v = {127, 128, 255, 256, 40000, 3000000000L, Long.MIN_VALUE, Long.MAX_VALUE, -129, -1};
        long[][] cut = {{127, -128, -1, 0, 64, 0, 0, -1, 127, -1},
            {127, 128, 255, 256, -25536, 24064, 0, -1, -129, -1},
            {127, 128, 255, 256, 40000, -1294967296, 0, -1, -129, -1}, v};
        for (int sort = 0; sort < 4; sort++) {
            x.tray(sort, sort, 30);
            for (int i = 0; i < v.length; i++) {
                Due.is(39, "write " + v[i] + " by sort " + sort, x.write(sort, 29, v[i]), cut[sort][i]);
            }
        }
        Due.fails(39, "write(0, 30, 0)", Due.INDEX, () -> x.write(0, 30, 0));
        Due.fails(39, "write(0, -1, 0)", Due.INDEX, () -> x.write(0, -1, 0));
        x.tray(0, 3, 0);
        Due.fails(39, "no place at all", Due.INDEX, () -> x.write(0, 0, 0));
        // A row of 0s again: told deeds of 0 can't be, those of 1 can.
        Due.row(x, 1, 1, 1, 1);
        Due.is(38, "two", x.perform(1), 2);
        x.tray(1, 1, 2);
        Due.is(38, "none", x.perform(1), 0);
    }

    private static void copy() {
        SwivelBoard x = Due.of(FOUR);
        x.tray(0, 0, 4);
        Due.is(40, "copy(0, 1)", x.copy(0, 1), 4);
        // Aims 1 3 1 1 then: by turns from 2 3 0 1 that is 3 of 0, 1 of 1, which drags 2.
        Due.is(40, "the look that came", x.cheapest(0, 0), 3 * 3 + 6);
        x.tray(1, 1, 2);
        Due.is(40, "as many as it has places", x.copy(1, 0), 2);
        Due.row(x, 2, 1, 7, 7, 7, 7, 203, 7);
        Due.is(40, "as many as members", x.copy(2, 99999), 4);
        // 3 3 3 1, 203, 7: turns of member 0 by 3, 3, 3 and 1, to stick 3, then what can't be.
        Due.is(40, "the rest stays", x.judge(2, 0), 5);
        Due.is(40, "the rest stays", x.judge(2, 3), 0);
        x.tray(3, 1, 0);
        Due.is(40, "none", x.copy(3, 5), 0);
        SwivelBoard y = new SwivelBoard();
        Due.fails(40, "copy(4, -1)", Due.NO_ELEMENT, () -> y.copy(4, -1));
        Due.fails(40, "copy(-1, 0)", Due.NO_ELEMENT, () -> y.copy(-1, 0));
        Due.fails(40, "copy(0, -1)", Due.STATE, () -> y.copy(0, -1));
        y.tray(0, 0, 2);
        Due.fails(40, "copy(0, -1)", Due.ARGUMENT, () -> y.copy(0, -1));
        Due.fails(40, "copy(0, 100000)", Due.ARGUMENT, () -> y.copy(0, 100000));
    }

    private static void images() {
        SwivelBoard x = Due.of(FOUR);
        Due.failsDeed(41, "image(3)", Due.NO_ELEMENT, () -> x.image(3));
        Due.failsDeed(41, "image(-1)", Due.NO_ELEMENT, () -> x.image(-1));
        Due.failsDeed(42, "restore(3)", Due.NO_ELEMENT, () -> x.restore(3));
        Due.failsDeed(42, "restore(-1)", Due.NO_ELEMENT, () -> x.restore(-1));
        Due.failsDeed(42, "restore(0)", Due.STATE, () -> x.restore(0));
        x.turn(0, 1);
        x.weigh(1, 8);
        String two = Due.view(x);
        x.image(2);
        Due.unchanged(41, "an image", two, x);
        Due.failsDeed(42, "restore(0)", Due.STATE, () -> x.restore(0));
        x.stick(0);
        x.image(1);
        Due.load(x, "board 2;member 0 faces 1;");
        Due.load(x, "board 9;");
        x.feed(1, 2, 3, 4, 5);
        Due.row(x, 0, 1, 1);
        x.restore(2);
        Due.is(42, "the fault stays", x.fault(0), 3);
        Due.is(42, "its place stays", x.fault(1), 6);
        Due.is(42, "the tape stays", x.count(7), 20);
        Due.is(42, "trays stay", x.judge(0, 1), 0);
        x.board(0);
        Due.load(x, "board 9;");
        Due.load(x, "board 2;");
        x.restore(2);
        Due.unchanged(42, "restored", two, x);
        Due.is(42, "deeds can be undone as then", x.undo(2), 0);
        Due.unchanged(42, "undone", Due.view(Due.of(FOUR)), x);
        x.minutes(3);
        x.restore(2);
        Due.unchanged(42, "restored once more", two, x);
        x.restore(1);
        Due.is(42, "another image", x.count(2), 9);
        x.image(2);
        x.stick(0);
        x.restore(2);
        Due.is(41, "an image made anew", x.count(2), 9);
        Due.is(41, "an image made anew", x.count(6), 3);
    }

    private static void count() {
        SwivelBoard x = Due.of(FOUR);
        x.feed(0, 0, 0, 0, 0);
        x.weigh(0, 1);
        int[] due = {7, 4, 8, 4, 0, 9, 1, 20};
        for (int i = 0; i < due.length; i++) {
            Due.is(43, "count(" + i + ")", x.count(i), due[i]);
        }
        Due.is(43, "count(8)", x.count(8), -1);
        Due.is(43, "count(-1)", x.count(-1), -1);
        Due.is(43, "count(MIN)", x.count(Integer.MIN_VALUE), -1);
        SwivelBoard y = Due.of("board 6;member 0 faces 3;member 3 faces 3;member 1 faces 1;member 2 faces 5;"
            + "member 4 faces 1;member 5 faces 2;");
        Due.is(43, "twos", y.count(4), 2);
        Due.is(43, "out", y.count(3), 0);
        Due.is(43, "two", Due.of("board 2;member 0 faces 1;member 1 faces 1;").count(4), 1);
    }
}
