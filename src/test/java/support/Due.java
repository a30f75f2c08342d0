import java.nio.charset.StandardCharsets;

/** What tests share: to feed a text, to compare an answer, to await a throw. */
final class Due {
    static final Class<?> NO_ELEMENT = java.util.NoSuchElementException.class;
    static final Class<?> STATE = IllegalStateException.class;
    static final Class<?> ARGUMENT = IllegalArgumentException.class;
    static final Class<?> INDEX = IndexOutOfBoundsException.class;
    private static int wrong = 0;
    private static int checks = 0;

    private Due() { }

    static int checks() {
        return checks;
    }

    interface Call {
        long answer();
    }

    interface Deed {
        void done();
    }

    static void is(int promise, String call, long got, long want) {
        checks++;
        if (got != want) {
            wrong++;
            System.out.println("promise " + promise + ": " + call + " answered " + got + ", due is " + want);
        }
    }

    /** The class itself must be thrown: a kind of it would be the machine's own. */
    static void fails(int promise, String call, Class<?> kind, Call c) {
        checks++;
        Class<?> got = null;
        try {
            c.answer();
        } catch (RuntimeException e) {
            got = e.getClass();
        }
        if (got != kind) {
            wrong++;
            System.out.println("promise " + promise + ": " + call + " threw " + got + ", due is " + kind);
        }
    }

    static void failsDeed(int promise, String call, Class<?> kind, Deed d) {
        fails(promise, call, kind, () -> {
            d.done();
            return 0;
        });
    }

    static void feed(SwivelBoard x, String text) {
        byte[] b = text.getBytes(StandardCharsets.ISO_8859_1);
        for (int i = 0; i < b.length; i += 20) {
            int[] v = new int[5];
            for (int j = 0; j < 20; j++) {
                v[j / 4] = v[j / 4] << 8 | (i + j < b.length ? b[i + j] & 255 : ' ');
            }
            x.feed(v[0], v[1], v[2], v[3], v[4]);
        }
    }

    static int load(SwivelBoard x, String text) {
        feed(x, text);
        return x.board(text.length());
    }

    static SwivelBoard of(String text) {
        SwivelBoard x = new SwivelBoard();
        if (load(x, text) < 0) {
            throw new IllegalStateException("fault " + x.fault(0) + " at " + x.fault(1) + " in " + text);
        }
        return x;
    }

    static void row(SwivelBoard x, int tray, int sort, long... numbers) {
        x.tray(tray, sort, numbers.length);
        for (int i = 0; i < numbers.length; i++) {
            x.write(tray, i, numbers[i]);
        }
    }

    /** All that can be seen without a dear call, to tell that a call changed nothing. */
    static String view(SwivelBoard x) {
        StringBuilder s = new StringBuilder();
        for (int i = 0; i < 8; i++) {
            s.append(x.count(i)).append(' ');
        }
        for (int m = 0; m < x.count(1); m++) {
            for (int i = 0; i < 6; i++) {
                s.append(x.member(m, i)).append(' ');
            }
            s.append(x.drags(m)).append(' ').append(x.goes(m)).append(' ');
        }
        return s.append(x.fault(0)).append(' ').append(x.fault(1)).toString();
    }

    static void unchanged(int promise, String call, String before, SwivelBoard x) {
        checks++;
        if (!before.equals(view(x))) {
            wrong++;
            System.out.println("promise " + promise + ": " + call + " changed " + before + " to " + view(x));
        }
    }

    static void end() {
        System.out.println(checks + " checks, " + wrong + " wrong");
        System.exit(wrong == 0 && checks > 0 ? 0 : 1);
    }
}
