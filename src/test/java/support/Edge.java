/** A test of its own, on objects of its own, for each sentence of the document that names a boundary case. */
final class Edge {
    private static int promise = 0;
    private static String sentence = "";
    private static int edges = 0;
    private static long covered = 0;

    private Edge() { }

    interface Body {
        void run();
    }

    /** What a body throws is wrong too, and must not keep the tests behind it from being run. */
    static void of(int number, String words, Body body) {
        promise = number;
        sentence = words;
        edges++;
        covered |= 1L << number;
        int before = Due.checks();
        try {
            body.run();
        } catch (RuntimeException e) {
            is("threw " + e, 1, 0);
        }
        if (Due.checks() == before) {
            is("checks", 0, 1);
        }
    }

    static void is(String call, long got, long want) {
        Due.is(promise, sentence + ": " + call, got, want);
    }

    static void fails(String call, Class<?> kind, Due.Call c) {
        Due.fails(promise, sentence + ": " + call, kind, c);
    }

    static void failsDeed(String call, Class<?> kind, Due.Deed d) {
        Due.failsDeed(promise, sentence + ": " + call, kind, d);
    }

    static void unchanged(String call, String before, SwivelBoard x) {
        Due.unchanged(promise, sentence + ": " + call, before, x);
    }

    static void aims(SwivelBoard x, int... due) {
        is("members", x.count(1), due.length);
        for (int m = 0; m < due.length; m++) {
            is("member(" + m + ", 0)", x.member(m, 0), due[m]);
        }
    }

    static void weights(SwivelBoard x, int... due) {
        for (int m = 0; m < due.length; m++) {
            is("member(" + m + ", 2)", x.member(m, 2), due[m]);
        }
    }

    /** A text without a fault, and how many lines it has. */
    static void fine(String text, int lines) {
        SwivelBoard x = new SwivelBoard();
        is(text, Due.load(x, text), lines);
        is("fault(0) of " + text, x.fault(0), 0);
        is("fault(1) of " + text, x.fault(1), -1);
        is("count(0) of " + text, x.count(0), lines);
    }

    /** A text with a fault; the sign ^, which is no part of it, stands ahead of its place. */
    static void fault(int kind, String marked) {
        int place = marked.indexOf('^');
        String text = marked.substring(0, place) + marked.substring(place + 1);
        SwivelBoard x = new SwivelBoard();
        is(text, Due.load(x, text), -10 - kind);
        is("fault(0) of " + text, x.fault(0), kind);
        is("fault(1) of " + text, x.fault(1), place);
    }

    static void end(int from, int to) {
        for (int p = from; p <= to; p++) {
            if ((covered >> p & 1) == 0) {
                promise = p;
                sentence = "it has a test";
                is("edges", 0, 1);
            }
        }
        System.out.print(edges + " edges, ");
        Due.end();
    }
}
