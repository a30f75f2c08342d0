import java.util.Random;

/** Board texts by chance: mostly whole ones, some with a fault put in. */
final class TextMaker {
    private static final String[] WORDS = {"board", "member", "faces", "weight", "stuck", "drags", "costs", "goes",
        "not", "and", "or", "who", "other", "apart", "aim", "votes", "foo", "a", "notnot", "whos", "memberr"};
    private static final String[] SIGNS = {";", ":", "+", "-", "*", "(", ")", "[", "]", "=", "<", ">"};
    private static final String[] ODD = {"A", "_", "\t", "\r", "1000", "00000", "\u00e9", "\0", ",", "/", "{", "`", "!"};

    private final Random chance;
    private StringBuilder text;

    TextMaker(Random chance) {
        this.chance = chance;
    }

    String make(int members, boolean mayFail) {
        text = new StringBuilder();
        say("board");
        number(members);
        say(";");
        int lines = chance.nextInt(7);
        for (int i = 0; i < lines; i++) {
            line(members);
        }
        if (mayFail) {
            spoil();
        }
        if (text.length() > 900) {
            return make(members, mayFail);
        }
        return text.toString();
    }

    private void line(int members) {
        switch (chance.nextInt(6)) {
            case 0:
                say("drags");
                say(":");
                truth(chance.nextInt(5), 0, members);
                break;
            case 1:
                say("costs");
                say(":");
                sum("costs", chance.nextInt(5), 0);
                break;
            case 2:
                say("goes");
                say(":");
                sum("goes", chance.nextInt(5), 0);
                break;
            default:
                say("member");
                number(chance.nextInt(members));
                int flags = chance.nextInt(4);
                for (int i = 0; i < flags; i++) {
                    flag(members);
                }
        }
        say(";");
    }

    private void flag(int members) {
        int sort = chance.nextInt(7);
        if (sort < 3) {
            say("faces");
            number(chance.nextInt(members));
        } else if (sort < 6) {
            say("weight");
            number(1 + chance.nextInt(9));
        } else {
            say("stuck");
        }
    }

    /** Depth goes up to 6 now and then to 7, the first that is a fault. */
    private int most() {
        return chance.nextInt(40) == 0 ? 7 : 6;
    }

    private void truth(int size, int depth, int members) {
        unit(size, depth, members);
        while (chance.nextInt(3) == 0 && text.length() < 700) {
            say(chance.nextBoolean() ? "or" : "and");
            unit(size - 1, depth, members);
        }
    }

    private void unit(int size, int depth, int members) {
        int sort = chance.nextInt(6);
        if (sort == 0 && depth < most()) {
            say("not");
            unit(size, depth + 1, members);
        } else if (sort == 1 && depth < most()) {
            say("[");
            truth(size, depth + 1, members);
            say("]");
        } else {
            sum("drags", size, depth);
            say(new String[] {"=", "<", ">"}[chance.nextInt(3)]);
            sum("drags", size, depth);
        }
    }

    private void sum(String law, int size, int depth) {
        term(law, size, depth);
        while (size > 0 && chance.nextInt(3) == 0 && text.length() < 700) {
            say(chance.nextBoolean() ? "+" : "-");
            term(law, size - 1, depth);
        }
    }

    private void term(String law, int size, int depth) {
        atom(law, size, depth);
        while (size > 0 && chance.nextInt(4) == 0 && text.length() < 700) {
            say("*");
            atom(law, size - 1, depth);
        }
    }

    private void atom(String law, int size, int depth) {
        int sort = chance.nextInt(10);
        if (sort < 3) {
            number(chance.nextInt(8) == 0 ? chance.nextInt(1000) : chance.nextInt(7));
        } else if (sort < 5 && size > 0 && depth < most()) {
            say("(");
            sum(law, size, depth + 1);
            say(")");
        } else {
            String[] names = law.equals("drags") ? new String[] {"who", "weight", "other", "apart", "other", "apart"}
                : law.equals("goes") ? new String[] {"who", "weight", "aim", "votes", "aim", "votes"}
                : new String[] {"who", "weight"};
            say(names[chance.nextInt(names.length)]);
        }
    }

    private void number(int n) {
        String digits = Integer.toString(n);
        while (digits.length() < 3 && chance.nextInt(12) == 0) {
            digits = "0" + digits;
        }
        say(digits);
    }

    private void say(String token) {
        if (text.length() > 0) {
            char last = text.charAt(text.length() - 1);
            char next = token.charAt(0);
            boolean grow = Character.isLetter(last) && Character.isLetter(next)
                || Character.isDigit(last) && Character.isDigit(next);
            if (grow || chance.nextInt(6) == 0) {
                text.append(chance.nextInt(5) == 0 ? '\n' : ' ');
            }
        }
        text.append(token);
    }

    private String token() {
        int sort = chance.nextInt(10);
        if (sort < 4) {
            return WORDS[chance.nextInt(WORDS.length)];
        }
        if (sort < 7) {
            return SIGNS[chance.nextInt(SIGNS.length)];
        }
        if (sort < 8) {
            return ODD[chance.nextInt(ODD.length)];
        }
        return Integer.toString(chance.nextInt(12));
    }

    private void spoil() {
        int at = chance.nextInt(text.length() + 1);
        switch (chance.nextInt(6)) {
            case 0:
                text.insert(at, token());
                break;
            case 1:
                text.insert(at, " " + token() + " ");
                break;
            case 2:
                text.setLength(at);
                break;
            case 3:
                if (at < text.length()) {
                    text.deleteCharAt(at);
                }
                break;
            case 4:
                if (at < text.length()) {
                    text.setCharAt(at, (char) chance.nextInt(256));
                }
                break;
            default:
                int end = Math.min(text.length(), at + 1 + chance.nextInt(8));
                text.replace(at, end, token());
        }
    }
}
