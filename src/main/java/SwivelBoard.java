import java.util.Arrays;
import java.util.NoSuchElementException;

/** Members on swivel chairs round a ring: who faces whom, who has the chair, and what turns make of it. */
public final class SwivelBoard {
    public static final int NONE = -1;

    private static final int MOST_MEMBERS = 6;
    private static final int MOST_BYTES = 900;
    private static final int FED_BYTES = 20;
    private static final int MOST_DEEDS = 10;
    private static final int MOST_TRAYS = 4;
    private static final int MOST_PLACES = 30;
    private static final int MOST_IMAGES = 3;
    private static final int MOST_MINUTES = 99;
    private static final int FAR_MINUTES = 99999;
    private static final int REIGN_MINUTES = 9999;
    private static final int MOST_CHANCES = 6;
    private static final int MOST_TIMES = 30;
    private static final int NOTCHES_FROM = 10;

    private final byte[] tape;
    private int tapeLength;
    private int faultKind;
    private int faultPlace;
    private int imagesMade;
    private final State live;
    private final State trial;
    private final State[] images;
    private final Tray[] trays;
    private final Parser parser;
    private final Survey survey;
    private final Sights sights;
    private final Course course;

    public SwivelBoard() {
        tape = new byte[MOST_BYTES];
        faultPlace = NONE;
        parser = new Parser(tape);
        Reckoner reckoner = new Reckoner();
        live = new State(reckoner);
        trial = new State(reckoner);
        images = new State[MOST_IMAGES];
        for (int i = 0; i < MOST_IMAGES; i++) {
            images[i] = new State(reckoner);
        }
        trays = new Tray[MOST_TRAYS];
        for (int i = 0; i < MOST_TRAYS; i++) {
            trays[i] = new Tray();
        }
        Turns turns = new Turns(live);
        survey = new Survey(live, turns);
        sights = new Sights(live, turns);
        course = new Course(live);
    }

    // ---- the board

    public int feed(int a, int b, int c, int d, int e) {
        if (tapeLength + FED_BYTES > MOST_BYTES) {
            return NONE;
        }
        append(a);
        append(b);
        append(c);
        append(d);
        append(e);
        return tapeLength;
    }

    public int board(int n) throws IllegalArgumentException {
        if (n < 0 || n > tapeLength) {
            throw new IllegalArgumentException("the tape has no such length");
        }
        tapeLength = 0;
        parser.read(n);
        faultKind = parser.fault;
        faultPlace = parser.place;
        if (faultKind != 0) {
            return -10 - faultKind;
        }
        live.settleAs(parser);
        return live.lines;
    }

    public int fault(int what) {
        if (what == 0) {
            return faultKind;
        }
        return what == 1 ? faultPlace : NONE;
    }

    public int member(int m, int what) throws NoSuchElementException, IllegalArgumentException {
        needMember(m);
        switch (what) {
            case 0: return Lanes.at(live.aims, m);
            case 1: return live.faced(m);
            case 2: return Lanes.at(live.weights, m);
            case 3: return Lanes.votesAt(live.votesIn(live.aims), m);
            case 4: return live.isStuck(m) ? 1 : 0;
            case 5: return live.price(m);
            default: throw new IllegalArgumentException("no such question of a member");
        }
    }

    public int chair() {
        return live.chairOf(live.aims);
    }

    public int drags(int m) throws NoSuchElementException {
        needMember(m);
        return live.turningWith(m);
    }

    public int goes(int m) throws NoSuchElementException {
        needMember(m);
        if (live.isStuck(m)) {
            return 0;
        }
        int votes = Lanes.votesAt(live.votesIn(live.aims), m);
        return live.pace(m, Lanes.at(live.aims, m), votes);
    }

    // ---- deeds

    public int turn(int m, int notches) {
        int why = live.turnBy(m, notches);
        return why == 0 ? notches * live.price(m) : -why;
    }

    public int weigh(int m, int weight) {
        int before = live.has(m) ? Lanes.at(live.weights, m) : 0;
        int why = live.giveWeight(m, weight);
        return why == 0 ? before : -why;
    }

    public int stick(int m) {
        int why = live.toggleStuck(m);
        if (why != 0) {
            return -why;
        }
        return live.isStuck(m) ? 1 : 0;
    }

    public int minutes(int n) throws IllegalArgumentException {
        if (n < 1 || n > MOST_MINUTES) {
            throw new IllegalArgumentException("no such number of minutes");
        }
        live.remember();
        int changes = 0;
        int ahead = live.chairOf(live.aims);
        for (int i = 0; i < n; i++) {
            live.passMinute();
            int behind = live.chairOf(live.aims);
            if (behind != ahead) {
                changes++;
            }
            ahead = behind;
        }
        return changes;
    }

    public int undo(int n) throws IllegalArgumentException {
        if (n < 1 || n > MOST_DEEDS || n > live.deeds) {
            throw new IllegalArgumentException("not so many deeds to undo");
        }
        for (int i = 0; i < n; i++) {
            live.takeBack();
        }
        return live.deeds;
    }

    public int judge(int tray, int what) throws NoSuchElementException, IllegalStateException, IllegalArgumentException {
        Tray told = needTray(tray);
        if (what < 0 || what > 3) {
            throw new IllegalArgumentException("no such question of told deeds");
        }
        trial.become(live);
        int why = 0;
        int place = NONE;
        for (int i = 0; i < told.size && why == 0; i++) {
            why = trial.enact(told.get(i));
            place = why == 0 ? NONE : i;
        }
        switch (what) {
            case 0: return place;
            case 1: return why;
            case 2: return trial.chairOf(trial.aims);
            default: return trial.stuck;
        }
    }

    public int perform(int tray) throws NoSuchElementException, IllegalStateException {
        Tray told = needTray(tray);
        int done = 0;
        while (done < told.size && live.enact(told.get(done)) == 0) {
            done++;
        }
        return done;
    }

    public int session(int seed, int times) throws IllegalArgumentException {
        if (times < 1 || times > MOST_TIMES) {
            throw new IllegalArgumentException("no such number of times");
        }
        int x = seed;
        int done = 0;
        for (int i = 0; i < times; i++) {
            x = drawnFrom(x);
            int sort = (x >>> 16) % 5;
            int m = 0;
            int amount = 0;
            if (sort != 0) {
                x = drawnFrom(x);
                m = (x >>> 16) % 6;
            }
            if (sort >= 1 && sort <= 3) {
                x = drawnFrom(x);
                amount = 1 + (x >>> 16) % (sort == 3 ? 9 : 5);
            }
            if (enactDrawn(sort, m, amount) == 0) {
                done++;
            }
        }
        return done;
    }

    // ---- turns

    public int cheapest(int tray, int what) throws NoSuchElementException, IllegalStateException, IllegalArgumentException {
        Tray told = needLook(tray);
        needPathQuestion(what);
        survey.tell(told.maskOf(live.members), told.aimsOf(live.members));
        return pathAnswer(survey.toldCost, survey.toldNotches, what);
    }

    public int ways(int tray) throws NoSuchElementException, IllegalStateException, IllegalArgumentException {
        Tray told = needLook(tray);
        survey.tell(told.maskOf(live.members), told.aimsOf(live.members));
        return survey.toldWays;
    }

    public int throne(int m, int what) throws NoSuchElementException, IllegalArgumentException {
        needMember(m);
        needPathQuestion(what);
        survey.seatAll();
        return pathAnswer(survey.throneCost[m], survey.throneNotches[m], what);
    }

    public int looks() {
        int still = idle();
        return still > 0 ? survey.manyTurns() / still : 0;
    }

    public int idle() {
        survey.tell(Lanes.ALL, live.aims);
        return survey.toldWays;
    }

    public int power(int m) throws NoSuchElementException {
        needMember(m);
        survey.seatAll();
        int still = idle();
        return still > 0 ? survey.won[m] / still : 0;
    }

    public int strongest() {
        survey.seatAll();
        int best = 0;
        for (int m = 1; m < live.members; m++) {
            if (survey.won[m] > survey.won[best]) {
                best = m;
            }
        }
        return best;
    }

    public int motion(int m) throws NoSuchElementException {
        needMember(m);
        if (live.chairOf(live.aims) == m) {
            return NONE;
        }
        sights.list(0, 0);
        for (int i = 0; i < sights.many; i++) {
            if (live.chairOf(sights.behind[i]) == m) {
                return sights.turned[i];
            }
        }
        return NONE;
    }

    public int helps(int m, int what) throws NoSuchElementException, IllegalArgumentException {
        needMember(m);
        if (what != 0 && what != 1) {
            throw new IllegalArgumentException("no such question of help");
        }
        survey.seatAll();
        int helpers = survey.helpers[m];
        if (helpers == NONE) {
            return NONE;
        }
        return what == 0 ? Integer.bitCount(helpers) : helpers;
    }

    public int vetoes(int m) throws NoSuchElementException {
        needMember(m);
        if (!survey.reaches(m, live.stuck)) {
            return 0;
        }
        int bits = 0;
        for (int v = 0; v < live.members; v++) {
            if (!live.isStuck(v) && !survey.reaches(m, live.stuck | 1 << v)) {
                bits |= 1 << v;
            }
        }
        return bits;
    }

    public int knees(int what) throws IllegalArgumentException {
        if (what != 1) {
            needPathQuestion(what);
        }
        survey.pairAll();
        if (what == 0) {
            return survey.mostKnees;
        }
        return pathAnswer(survey.kneesCost, survey.kneesNotches, what == 1 ? 0 : what);
    }

    // ---- by itself

    public int settles(int what) throws IllegalArgumentException {
        if (what != 0 && what != 1) {
            throw new IllegalArgumentException("no such question of settling");
        }
        course.settle();
        return what == 0 ? course.tail : course.round;
    }

    public int chairIn(int n) throws IllegalArgumentException {
        needMinutes(n, FAR_MINUTES);
        return live.chairOf(course.lookIn(n));
    }

    public int aimIn(int m, int n) throws NoSuchElementException, IllegalArgumentException {
        needMember(m);
        needMinutes(n, FAR_MINUTES);
        return Lanes.at(course.lookIn(n), m);
    }

    public int reign(int m, int n) throws NoSuchElementException, IllegalArgumentException {
        needMember(m);
        needMinutes(n, REIGN_MINUTES);
        return course.reignOf(m, n);
    }

    public int first(int m) throws NoSuchElementException {
        needMember(m);
        return course.firstOf(m);
    }

    // ---- seen

    public int seen(int tray) throws NoSuchElementException, IllegalStateException, IllegalArgumentException {
        listSeen(tray);
        return sights.many;
    }

    public int seenAt(int tray, int k) throws NoSuchElementException, IllegalStateException, IllegalArgumentException {
        Tray told = needLook(tray);
        if (k < 0) {
            throw new IllegalArgumentException("no such place among what is seen");
        }
        sights.list(told.maskOf(live.members), told.aimsOf(live.members));
        return k < sights.many ? sights.turned[k] : NONE;
    }

    public int ask(int tray) throws NoSuchElementException, IllegalStateException, IllegalArgumentException {
        int mask = listSeen(tray);
        if (sights.many == 0) {
            return NONE;
        }
        int best = NONE;
        int least = sights.many + 1;
        for (int m = 0; m < live.members; m++) {
            if (Lanes.at(mask, m) == 0) {
                int most = sights.mostAlike(m);
                if (most < least) {
                    least = most;
                    best = m;
                }
            }
        }
        return best;
    }

    // ---- chances

    public int chance(int m, int n, int what) throws NoSuchElementException, IllegalArgumentException {
        needMember(m);
        needChances(n);
        if (what != 0 && what != 1) {
            throw new IllegalArgumentException("no such question of a chance");
        }
        sights.scatter(n);
        int above = sights.chances[m];
        int below = sights.allChances;
        int common = commonMeasure(above, below);
        if (common < 1) {
            return 0;
        }
        return (what == 0 ? above : below) / common;
    }

    public int likeliest(int n) throws IllegalArgumentException {
        needChances(n);
        sights.scatter(n);
        int best = NONE;
        int most = 0;
        for (int m = 0; m < live.members; m++) {
            if (sights.chances[m] > most) {
                most = sights.chances[m];
                best = m;
            }
        }
        return best;
    }

    // ---- trays, images

    public void tray(int tray, int sort, int many) throws NoSuchElementException, IllegalArgumentException {
        if (tray < 0 || tray >= MOST_TRAYS) {
            throw new NoSuchElementException("no such tray");
        }
        if (sort < 0 || sort > 3 || many < 0 || many > MOST_PLACES) {
            throw new IllegalArgumentException("no such sort or size");
        }
        trays[tray].clearTo(sort, many);
    }

    public long write(int tray, int place, long v) throws NoSuchElementException, IllegalStateException, IndexOutOfBoundsException {
        Tray row = needTray(tray);
        if (place < 0 || place >= row.size) {
            throw new IndexOutOfBoundsException("no such place in the tray");
        }
        return row.put(place, v);
    }

    public int copy(int tray, int n) throws NoSuchElementException, IllegalStateException, IllegalArgumentException {
        Tray row = needTray(tray);
        needMinutes(n, FAR_MINUTES);
        int look = course.lookIn(n);
        int many = Math.min(row.size, live.members);
        for (int i = 0; i < many; i++) {
            row.put(i, Lanes.at(look, i));
        }
        return many;
    }

    public void image(int i) throws NoSuchElementException {
        needImage(i);
        images[i].become(live);
        imagesMade |= 1 << i;
    }

    public void restore(int i) throws NoSuchElementException, IllegalStateException {
        needImage(i);
        if ((imagesMade >> i & 1) == 0) {
            throw new IllegalStateException("no such image was made");
        }
        live.become(images[i]);
    }

    public int count(int what) {
        switch (what) {
            case 0: return live.lines;
            case 1: return live.members;
            case 2: return live.stuck;
            case 3: return live.lookingOut();
            case 4: return Lanes.kneesIn(live.aims, live.members);
            case 5: return live.weightsTogether();
            case 6: return live.deeds;
            case 7: return tapeLength;
            default: return NONE;
        }
    }

    // ---- what several calls need

    private void append(int v) {
        for (int shift = 24; shift >= 0 && tapeLength < MOST_BYTES; shift -= 8) {
            tape[tapeLength] = (byte) (v >>> shift);
            tapeLength++;
        }
    }

    private static int drawnFrom(int x) {
        return 1103515245 * x + 12345;
    }

    private int enactDrawn(int sort, int m, int amount) {
        switch (sort) {
            case 0: return live.enact(NONE);
            case 3: return live.giveWeight(m, amount);
            case 4: return live.toggleStuck(m);
            default: return live.turnBy(m, amount);
        }
    }

    private void needMember(int m) {
        if (!live.has(m)) {
            throw new NoSuchElementException("no such member");
        }
    }

    private Tray needTray(int tray) {
        if (tray < 0 || tray >= MOST_TRAYS) {
            throw new NoSuchElementException("no such tray");
        }
        Tray row = trays[tray];
        if (row.size == NONE) {
            throw new IllegalStateException("the tray is missing");
        }
        return row;
    }

    private Tray needLook(int tray) {
        Tray row = needTray(tray);
        if (!row.tellsLook(live.members)) {
            throw new IllegalArgumentException("the tray tells no look");
        }
        return row;
    }

    private void needPathQuestion(int what) {
        if (what != 0 && (what < NOTCHES_FROM || what >= NOTCHES_FROM + MOST_MEMBERS)) {
            throw new IllegalArgumentException("no such question of turns");
        }
    }

    private void needMinutes(int n, int most) {
        if (n < 0 || n > most) {
            throw new IllegalArgumentException("no such number of minutes");
        }
    }

    private void needChances(int n) {
        if (n < 0 || n > MOST_CHANCES) {
            throw new IllegalArgumentException("no such number of turns at random");
        }
    }

    private void needImage(int i) {
        if (i < 0 || i >= MOST_IMAGES) {
            throw new NoSuchElementException("no such image");
        }
    }

    private int pathAnswer(int cost, int notches, int what) {
        if (cost == NONE || what == 0) {
            return cost;
        }
        int m = what - NOTCHES_FROM;
        return live.has(m) ? Lanes.at(notches, m) : NONE;
    }

    private int listSeen(int tray) {
        Tray told = needLook(tray);
        int mask = told.maskOf(live.members);
        sights.list(mask, told.aimsOf(live.members));
        return mask;
    }

    private static int commonMeasure(int a, int b) {
        int large = a;
        int small = b;
        // Two steps of Euclid halve the larger one, so 64 are more than any int needs.
        for (int i = 0; i < 64 && small > 0; i++) {
            int rest = large % small;
            large = small;
            small = rest;
        }
        return large;
    }

    /** One number of 0 to 15 for each member in one int, so that a whole look is turned or compared in one step. */
    private static final class Lanes {
        static final int ALL = 0xFFFFFF;
        private static final int ONES = 0x111111;
        private static final int TOPS = 0x888888;

        static int at(int lanes, int m) {
            return lanes >>> (m << 2) & 15;
        }

        static int with(int lanes, int m, int v) {
            int shift = m << 2;
            return lanes & ~(15 << shift) | (v & 15) << shift;
        }

        static int ofBits(int bits) {
            int lanes = 0;
            for (int m = 0; m < MOST_MEMBERS; m++) {
                lanes |= (bits >> m & 1) << (m << 2);
            }
            return lanes;
        }

        /** Each lane's sum modulo members: a lane's top bit tells, with 8 - members added, that the sum is too great. */
        static int plus(int a, int b, int members) {
            int sum = a + b;
            int over = (sum + (8 - members) * ONES & TOPS) >>> 3;
            return sum - over * members;
        }

        /** Votes need up to 45, so they have bytes of a long for lanes. */
        static int votesAt(long votes, int m) {
            return (int) (votes >>> (m << 3)) & 255;
        }

        /** Each two is found by its lower member alone, whose way to the other doesn't pass the ring's seam. */
        static int kneesIn(int look, int members) {
            int twos = 0;
            for (int m = 0; m < members; m++) {
                int aim = at(look, m);
                if (aim != 0 && m + aim < members && at(look, m + aim) == members - aim) {
                    twos++;
                }
            }
            return twos;
        }
    }

    /** The signs in which a law is kept: numbers stand for themselves, all else is below 0. */
    private static final class Reckoner {
        static final int WHO = -1;
        static final int WEIGHT = -2;
        static final int THIRD = -3;
        static final int FOURTH = -4;
        static final int ADD = -5;
        static final int TAKE = -6;
        static final int TIMES = -7;
        static final int LIKE = -8;
        static final int BELOW = -9;
        static final int ABOVE = -10;
        static final int NOT = -11;
        static final int AND = -12;
        static final int OR = -13;
        private static final int BOUND = 1000000;
        /** Seven levels with at most six numbers waiting in each. */
        private static final int DEPTH = 64;

        private final int[] stack = new int[DEPTH];
        private int top;

        /** THIRD and FOURTH are other and apart in drags, aim and votes in goes. */
        int reckon(int[] code, int who, int weight, int third, int fourth) {
            top = 0;
            for (int i = 0; i < code.length; i++) {
                int sign = code[i];
                switch (sign) {
                    case WHO: push(who); break;
                    case WEIGHT: push(weight); break;
                    case THIRD: push(third); break;
                    case FOURTH: push(fourth); break;
                    case NOT: push(1 - pop()); break;
                    default:
                        if (sign >= 0) {
                            push(sign);
                        } else {
                            int right = pop();
                            push(bounded(join(sign, pop(), right)));
                        }
                }
            }
            return pop();
        }

        private static long join(int sign, int left, int right) {
            switch (sign) {
                case ADD: return left + right;
                case TAKE: return left - right;
                case TIMES: return (long) left * right;
                case LIKE: return left == right ? 1 : 0;
                case BELOW: return left < right ? 1 : 0;
                case ABOVE: return left > right ? 1 : 0;
                case AND: return left & right;
                default: return left | right;
            }
        }

        private static int bounded(long v) {
            if (v > BOUND) {
                return BOUND;
            }
            return v < -BOUND ? -BOUND : (int) v;
        }

        private void push(int v) {
            if (top < DEPTH) {
                stack[top] = v;
                top++;
            }
        }

        private int pop() {
            if (top < 1) {
                return 0;
            }
            top--;
            return stack[top];
        }
    }

    /** Cuts the text into tokens, one at a time. */
    private static final class Tokens {
        static final int END = 0;
        static final int WORD = 1;
        static final int NUMBER = 2;
        static final int SIGN = 3;
        static final int BAD = 4;
        private static final int MOST_DIGITS = 3;

        private final byte[] text;
        private int length;
        private int next;
        int kind;
        int start;
        int value;

        Tokens(byte[] text) {
            this.text = text;
        }

        void begin(int n) {
            length = Math.min(n, text.length);
            next = 0;
            step();
        }

        void step() {
            while (next < length && isBlank(signAt(next))) {
                next++;
            }
            start = next;
            value = signAt(next);
            if (next >= length) {
                kind = END;
            } else if (isLetter(value)) {
                kind = WORD;
                while (next < length && isLetter(signAt(next))) {
                    next++;
                }
            } else if (isDigit(value)) {
                value = 0;
                while (next < length && isDigit(signAt(next))) {
                    // A fourth digit makes it no number, and many more must not run over.
                    value = Math.min(value * 10 + signAt(next) - '0', 1000);
                    next++;
                }
                kind = next - start <= MOST_DIGITS ? NUMBER : BAD;
            } else {
                kind = isSign(value) ? SIGN : BAD;
                next++;
            }
        }

        boolean isWord(String word) {
            if (kind != WORD || next - start != word.length()) {
                return false;
            }
            for (int i = 0; i < word.length(); i++) {
                if (signAt(start + i) != word.charAt(i)) {
                    return false;
                }
            }
            return true;
        }

        boolean isSignOf(char c) {
            return kind == SIGN && value == c;
        }

        private int signAt(int at) {
            return at >= 0 && at < length ? text[at] & 255 : NONE;
        }

        private static boolean isBlank(int c) {
            return c == 10 || c == 32;
        }

        private static boolean isLetter(int c) {
            return c >= 'a' && c <= 'z';
        }

        private static boolean isDigit(int c) {
            return c >= '0' && c <= '9';
        }

        private static boolean isSign(int c) {
            switch (c) {
                case ';': case ':': case '+': case '-': case '*': case '(': case ')':
                case '[': case ']': case '=': case '<': case '>':
                    return true;
                default:
                    return false;
            }
        }
    }

    /** Writes a law's tokens in the order in which they are reckoned, operands first. */
    private static final class LawWriter {
        static final int DRAGS = 0;
        static final int COSTS = 1;
        static final int GOES = 2;

        private static final int ROUND = -14;
        private static final int SQUARE = -15;
        private static final int MOST_WITHIN = 6;
        /** Seven levels with at most five signs waiting in each, and what opens them. */
        private static final int DEPTH = 64;

        /** What is told at this level: a sum alone, a unit's left or right sum, a unit that ] has closed. */
        private static final int SUM = 0;
        private static final int LEFT = 1;
        private static final int RIGHT = 2;
        private static final int CLOSED = 3;

        private final int[] code = new int[MOST_BYTES];
        private int length;
        private final int[] waiting = new int[DEPTH];
        private final int[] sides = new int[DEPTH];
        private int top;
        private int law;
        private int side;
        private int within;
        private int brackets;
        /** Whether an operand is to come, not what links two. */
        boolean wanted;
        private boolean unitStart;

        void begin(int which) {
            law = which;
            length = 0;
            top = 0;
            within = 0;
            brackets = 0;
            wanted = true;
            unitStart = which == DRAGS;
            side = unitStart ? LEFT : SUM;
        }

        boolean isWhole() {
            return !wanted && brackets == 0 && side != LEFT;
        }

        int[] written() {
            unwind(1);
            return Arrays.copyOf(code, length);
        }

        /** As takeLink: 0, or the kind of the token's fault. */
        int takeOperand(Tokens token) {
            int name = nameOf(token);
            if (token.kind == Tokens.NUMBER || name != 0) {
                emit(name != 0 ? name : token.value);
                wanted = false;
                return 0;
            }
            if (unitStart && token.isWord("not")) {
                return open(Reckoner.NOT);
            }
            if (unitStart && token.isSignOf('[')) {
                return open(SQUARE);
            }
            return token.isSignOf('(') ? open(ROUND) : 2;
        }

        private int open(int sign) {
            if (within >= MOST_WITHIN) {
                return 4;
            }
            within++;
            push(sign);
            if (sign != Reckoner.NOT) {
                brackets++;
            }
            if (sign == ROUND) {
                side = SUM;
                unitStart = false;
            }
            return 0;
        }

        int takeLink(Tokens token) {
            boolean unitWhole = side == RIGHT || side == CLOSED;
            if (unitWhole && (token.isWord("and") || token.isWord("or"))) {
                link(token.isWord("and") ? Reckoner.AND : Reckoner.OR);
                side = LEFT;
                unitStart = true;
                return 0;
            }
            if (brackets > 0 && (unitWhole ? token.isSignOf(']') : side == SUM && token.isSignOf(')'))) {
                close();
                return 0;
            }
            int sign = token.kind == Tokens.SIGN ? linkOf(token.value) : 0;
            if (sign == 0) {
                return 2;
            }
            boolean compares = isComparison(sign);
            if (compares ? side != LEFT : side == CLOSED) {
                return 2;
            }
            link(sign);
            side = compares ? RIGHT : side;
            unitStart = false;
            return 0;
        }

        private void link(int sign) {
            unwind(bondOf(sign));
            push(sign);
            wanted = true;
        }

        private void close() {
            unwind(1);
            if (top > 0) {
                top--;
                side = waiting[top] == SQUARE ? CLOSED : sides[top];
            }
            brackets--;
            within--;
        }

        /** Brackets bind at 0, so that nothing reaches through them. */
        private void unwind(int bond) {
            while (top > 0 && bondOf(waiting[top - 1]) >= bond) {
                top--;
                emit(waiting[top]);
                if (waiting[top] == Reckoner.NOT) {
                    within--;
                }
            }
        }

        private int nameOf(Tokens token) {
            if (token.isWord("who")) {
                return Reckoner.WHO;
            }
            if (token.isWord("weight")) {
                return Reckoner.WEIGHT;
            }
            if (law == DRAGS && token.isWord("other") || law == GOES && token.isWord("aim")) {
                return Reckoner.THIRD;
            }
            if (law == DRAGS && token.isWord("apart") || law == GOES && token.isWord("votes")) {
                return Reckoner.FOURTH;
            }
            return 0;
        }

        private static int linkOf(int sign) {
            switch (sign) {
                case '+': return Reckoner.ADD;
                case '-': return Reckoner.TAKE;
                case '*': return Reckoner.TIMES;
                case '=': return Reckoner.LIKE;
                case '<': return Reckoner.BELOW;
                case '>': return Reckoner.ABOVE;
                default: return 0;
            }
        }

        private static boolean isComparison(int sign) {
            return sign == Reckoner.LIKE || sign == Reckoner.BELOW || sign == Reckoner.ABOVE;
        }

        private static int bondOf(int sign) {
            switch (sign) {
                case Reckoner.OR: return 1;
                case Reckoner.AND: return 2;
                case Reckoner.NOT: return 3;
                case Reckoner.LIKE: case Reckoner.BELOW: case Reckoner.ABOVE: return 4;
                case Reckoner.ADD: case Reckoner.TAKE: return 5;
                case Reckoner.TIMES: return 6;
                default: return 0;
            }
        }

        private void push(int sign) {
            if (top < DEPTH) {
                waiting[top] = sign;
                sides[top] = side;
                top++;
            }
        }

        private void emit(int sign) {
            if (length < MOST_BYTES) {
                code[length] = sign;
                length++;
            }
        }
    }

    /** Reads a board's text up to its end or its first fault. */
    private static final class Parser {
        private final Tokens tokens;
        private final LawWriter writer;
        int fault;
        int place;
        int members;
        int lines;
        int aims;
        int weights;
        int stuck;
        int[] drags;
        int[] costs;
        int[] goes;
        private final int[] unwritten;

        Parser(byte[] text) {
            tokens = new Tokens(text);
            writer = new LawWriter();
            unwritten = new int[0];
            drags = unwritten;
            costs = unwritten;
            goes = unwritten;
        }

        void read(int length) {
            fault = 0;
            place = NONE;
            lines = 0;
            aims = 0;
            stuck = 0;
            drags = unwritten;
            costs = unwritten;
            goes = unwritten;
            tokens.begin(length);
            readBoard();
            for (int i = 0; i < MOST_BYTES && fault == 0 && tokens.kind != Tokens.END; i++) {
                readLine();
            }
        }

        private void readBoard() {
            if (!tokens.isWord("board")) {
                refuse(2);
                return;
            }
            tokens.step();
            members = takeNumber(2, MOST_MEMBERS);
            weights = Lanes.ofBits((1 << members) - 1);
            endLine();
        }

        private void readLine() {
            if (tokens.isWord("member")) {
                readMember();
            } else if (tokens.isWord("drags")) {
                drags = readLaw(LawWriter.DRAGS);
            } else if (tokens.isWord("costs")) {
                costs = readLaw(LawWriter.COSTS);
            } else if (tokens.isWord("goes")) {
                goes = readLaw(LawWriter.GOES);
            } else {
                refuse(2);
            }
            endLine();
        }

        private void readMember() {
            tokens.step();
            int m = takeNumber(0, members - 1);
            for (int i = 0; i < MOST_BYTES && fault == 0 && tokens.kind == Tokens.WORD; i++) {
                readFlag(m);
            }
        }

        private void readFlag(int m) {
            if (tokens.isWord("faces")) {
                tokens.step();
                aims = Lanes.with(aims, m, takeNumber(0, members - 1));
            } else if (tokens.isWord("weight")) {
                tokens.step();
                weights = Lanes.with(weights, m, takeNumber(1, 9));
            } else if (tokens.isWord("stuck")) {
                tokens.step();
                stuck |= 1 << m;
            } else {
                refuse(2);
            }
        }

        private int[] readLaw(int which) {
            tokens.step();
            takeSign(':');
            writer.begin(which);
            for (int i = 0; i < MOST_BYTES && fault == 0 && !lawEnds(); i++) {
                int kind = writer.wanted ? writer.takeOperand(tokens) : writer.takeLink(tokens);
                if (kind == 0) {
                    tokens.step();
                } else {
                    refuse(kind);
                }
            }
            return fault == 0 ? writer.written() : unwritten;
        }

        private boolean lawEnds() {
            return writer.isWhole() && tokens.isSignOf(';');
        }

        private void endLine() {
            takeSign(';');
            if (fault == 0) {
                lines++;
            }
        }

        private int takeNumber(int least, int most) {
            if (fault != 0) {
                return least;
            }
            int v = tokens.value;
            if (tokens.kind != Tokens.NUMBER) {
                refuse(2);
                return least;
            }
            if (v < least || v > most) {
                refuse(3);
                return least;
            }
            tokens.step();
            return v;
        }

        private void takeSign(char sign) {
            if (fault != 0) {
                return;
            }
            if (tokens.isSignOf(sign)) {
                tokens.step();
            } else {
                refuse(2);
            }
        }

        /** What is no token at all stands nowhere, and its own kind is the least. */
        private void refuse(int kind) {
            fault = tokens.kind == Tokens.BAD ? 1 : kind;
            place = tokens.start;
        }
    }

    /** All that an image keeps: laws, members and the deeds that can be undone. */
    private static final class State {
        private final Reckoner reckoner;
        int members;
        int lines;
        int aims;
        int weights;
        int stuck;
        int deeds;
        /** Another number behind each change, so that what was found out before isn't taken for new. */
        int stamp;
        private int[] dragLaw;
        private int[] costLaw;
        private int[] goLaw;
        private final long[] past;

        State(Reckoner reckoner) {
            this.reckoner = reckoner;
            members = 2;
            weights = Lanes.ofBits(3);
            dragLaw = new int[0];
            costLaw = dragLaw;
            goLaw = dragLaw;
            past = new long[MOST_DEEDS];
        }

        void settleAs(Parser text) {
            members = text.members;
            lines = text.lines;
            aims = text.aims;
            weights = text.weights;
            stuck = text.stuck;
            dragLaw = text.drags;
            costLaw = text.costs;
            goLaw = text.goes;
            deeds = 0;
            stamp++;
        }

        /** Laws are never changed once written, so both may hold the same rows. */
        void become(State from) {
            members = from.members;
            lines = from.lines;
            aims = from.aims;
            weights = from.weights;
            stuck = from.stuck;
            dragLaw = from.dragLaw;
            costLaw = from.costLaw;
            goLaw = from.goLaw;
            deeds = from.deeds;
            System.arraycopy(from.past, 0, past, 0, MOST_DEEDS);
            stamp++;
        }

        boolean has(int m) {
            return m >= 0 && m < members;
        }

        boolean isStuck(int m) {
            return (stuck >> m & 1) != 0;
        }

        int faced(int m) {
            int aim = Lanes.at(aims, m);
            if (aim == 0) {
                return NONE;
            }
            return m + aim < members ? m + aim : m + aim - members;
        }

        long votesIn(int look) {
            long votes = 0;
            int rest = look;
            int loads = weights;
            for (int m = 0; m < members; m++) {
                int aim = rest & 15;
                if (aim != 0) {
                    int to = m + aim < members ? m + aim : m + aim - members;
                    votes += (long) (loads & 15) << (to << 3);
                }
                rest >>>= 4;
                loads >>>= 4;
            }
            return votes;
        }

        int chairOf(int look) {
            long votes = votesIn(look);
            int best = NONE;
            int most = 0;
            for (int m = 0; m < members; m++) {
                int v = (int) votes & 255;
                if (v > most) {
                    most = v;
                    best = m;
                }
                votes >>>= 8;
            }
            return best;
        }

        int lookingOut() {
            int bits = 0;
            for (int m = 0; m < members; m++) {
                if (Lanes.at(aims, m) == 0) {
                    bits |= 1 << m;
                }
            }
            return bits;
        }

        int weightsTogether() {
            int sum = 0;
            for (int m = 0; m < members; m++) {
                sum += Lanes.at(weights, m);
            }
            return sum;
        }

        int price(int m) {
            if (costLaw.length == 0) {
                return 1;
            }
            int told = reckoner.reckon(costLaw, m, Lanes.at(weights, m), 0, 0);
            return Math.max(1, Math.min(99, told));
        }

        /** Who would turn with a member if nobody were stuck: it hangs on laws and weights alone. */
        int draggedBy(int m) {
            int bits = 1 << m;
            if (dragLaw.length == 0) {
                return bits;
            }
            int weight = Lanes.at(weights, m);
            for (int other = 0; other < members; other++) {
                int way = Math.abs(other - m);
                int apart = Math.min(way, members - way);
                if (other != m && reckoner.reckon(dragLaw, m, weight, other, apart) != 0) {
                    bits |= 1 << other;
                }
            }
            return bits;
        }

        int turningWith(int m) {
            return isStuck(m) ? 0 : draggedBy(m) & ~stuck;
        }

        /** Its notches of a minute by the law, stuck or not. */
        int pace(int m, int aim, int votes) {
            if (goLaw.length == 0 || members < 1) {
                return 0;
            }
            return Math.floorMod(reckoner.reckon(goLaw, m, Lanes.at(weights, m), aim, votes), members);
        }

        void passMinute() {
            long votes = votesIn(aims);
            int notches = 0;
            for (int m = 0; m < members; m++) {
                if (!isStuck(m)) {
                    notches |= pace(m, Lanes.at(aims, m), Lanes.votesAt(votes, m)) << (m << 2);
                }
            }
            aims = Lanes.plus(aims, notches, members);
        }

        /** Comes ahead of each deed. */
        void remember() {
            if (deeds >= MOST_DEEDS) {
                System.arraycopy(past, 1, past, 0, MOST_DEEDS - 1);
                deeds = MOST_DEEDS - 1;
            }
            past[deeds] = (long) stuck << 48 | (long) weights << 24 | aims;
            deeds++;
            stamp++;
        }

        void takeBack() {
            if (deeds < 1) {
                return;
            }
            deeds--;
            long before = past[deeds];
            aims = (int) before & Lanes.ALL;
            weights = (int) (before >>> 24) & Lanes.ALL;
            stuck = (int) (before >>> 48);
            stamp++;
        }

        /** As giveWeight, toggleStuck and enact: 0, or why it can't be. */
        int turnBy(int m, int notches) {
            if (!has(m) || notches < 1 || notches >= members) {
                return 1;
            }
            if (isStuck(m)) {
                return 2;
            }
            remember();
            aims = Lanes.plus(aims, notches * Lanes.ofBits(turningWith(m)), members);
            return 0;
        }

        int giveWeight(int m, int weight) {
            if (!has(m) || weight < 1 || weight > 9) {
                return 1;
            }
            remember();
            weights = Lanes.with(weights, m, weight);
            return 0;
        }

        int toggleStuck(int m) {
            if (!has(m)) {
                return 1;
            }
            remember();
            stuck ^= 1 << m;
            return 0;
        }

        int enact(long told) {
            if (told < NONE || told > 299) {
                return 1;
            }
            int v = (int) told;
            if (v == NONE) {
                remember();
                passMinute();
                return 0;
            }
            if (v < 100) {
                return turnBy(v / 10, v % 10);
            }
            return v < 200 ? giveWeight((v - 100) / 10, v % 10) : toggleStuck(v - 200);
        }
    }

    /** A row of numbers of one sort; its room is made once, whatever size it is given. */
    private static final class Tray {
        int size;
        private int sort;
        private final long[] numbers;

        Tray() {
            size = NONE;
            numbers = new long[MOST_PLACES];
        }

        void clearTo(int newSort, int many) {
            sort = newSort;
            size = many;
            Arrays.fill(numbers, 0);
        }

        long get(int place) {
            return place >= 0 && place < MOST_PLACES ? numbers[place] : 0;
        }

        long put(int place, long v) {
            long kept = cut(v);
            if (place >= 0 && place < MOST_PLACES) {
                numbers[place] = kept;
            }
            return kept;
        }

        private long cut(long v) {
            switch (sort) {
                case 0: return (byte) v;
                case 1: return (short) v;
                case 2: return (int) v;
                default: return v;
            }
        }

        boolean tellsLook(int members) {
            if (size != members) {
                return false;
            }
            for (int m = 0; m < members; m++) {
                if (get(m) < NONE || get(m) >= members) {
                    return false;
                }
            }
            return true;
        }

        /** Full lanes for those whose aim is told, so that the others drop out of a comparison. */
        int maskOf(int members) {
            int mask = 0;
            for (int m = 0; m < members; m++) {
                if (get(m) != NONE) {
                    mask = Lanes.with(mask, m, 15);
                }
            }
            return mask;
        }

        int aimsOf(int members) {
            int aims = 0;
            for (int m = 0; m < members; m++) {
                if (get(m) != NONE) {
                    aims = Lanes.with(aims, m, (int) get(m));
                }
            }
            return aims;
        }
    }

    /** Goes through all turns, the last member's notches running fastest, so that the first of like ones comes first. */
    private static final class Turns {
        private final State live;
        private int stamp;
        private final int[] dragged = new int[MOST_MEMBERS];
        private final int[] price = new int[MOST_MEMBERS];
        private final int[] free = new int[MOST_MEMBERS];
        private final int[] pull = new int[MOST_MEMBERS];
        private int members;
        int freeMany;
        int many;
        int look;
        int cost;
        int notches;
        int movers;

        Turns(State live) {
            this.live = live;
            stamp = NONE;
        }

        void begin(int stuck) {
            reckonLaws();
            members = live.members;
            freeMany = 0;
            many = 1;
            for (int m = 0; m < members; m++) {
                if ((stuck >> m & 1) == 0) {
                    free[freeMany] = m;
                    freeMany++;
                    pull[m] = Lanes.ofBits(dragged[m] & ~stuck);
                    many *= members;
                }
            }
            look = live.aims;
            cost = 0;
            notches = 0;
            movers = 0;
        }

        /** A member's full round of notches leaves the look as it was, so going back to none is a notch like others. */
        void advance() {
            int last = members - 1;
            for (int f = freeMany - 1; f >= 0; f--) {
                int m = free[f];
                int shift = m << 2;
                look = Lanes.plus(look, pull[m], members);
                if ((notches >>> shift & 15) < last) {
                    notches += 1 << shift;
                    cost += price[m];
                    movers |= 1 << m;
                    return;
                }
                notches -= last << shift;
                cost -= last * price[m];
                movers &= ~(1 << m);
            }
        }

        int freeAt(int f) {
            return f >= 0 && f < freeMany ? free[f] : 0;
        }

        int pullAt(int f) {
            return f >= 0 && f < freeMany ? pull[free[f]] : 0;
        }

        private void reckonLaws() {
            if (stamp == live.stamp) {
                return;
            }
            for (int m = 0; m < live.members; m++) {
                dragged[m] = live.draggedBy(m);
                price[m] = live.price(m);
            }
            stamp = live.stamp;
        }
    }

    /** What can be had by turns; kept till the board changes, for one way through them all is dear. */
    private static final class Survey {
        private final State live;
        private final Turns turns;
        private int seatedAt;
        private int pairedAt;
        private int toldAt;
        private int toldMask;
        private int toldAims;
        int toldWays;
        int toldCost;
        int toldNotches;
        int mostKnees;
        int kneesCost;
        int kneesNotches;
        final int[] won;
        final int[] throneCost;
        final int[] throneNotches;
        final int[] helpers;

        Survey(State live, Turns turns) {
            this.live = live;
            this.turns = turns;
            seatedAt = NONE;
            pairedAt = NONE;
            toldAt = NONE;
            won = new int[MOST_MEMBERS];
            throneCost = new int[MOST_MEMBERS];
            throneNotches = new int[MOST_MEMBERS];
            helpers = new int[MOST_MEMBERS];
        }

        int manyTurns() {
            turns.begin(live.stuck);
            return turns.many;
        }

        void tell(int mask, int aims) {
            if (toldAt == live.stamp && toldMask == mask && toldAims == aims) {
                return;
            }
            toldAt = live.stamp;
            toldMask = mask;
            toldAims = aims;
            toldWays = 0;
            toldCost = NONE;
            toldNotches = 0;
            turns.begin(live.stuck);
            for (int i = 0; i < turns.many; i++) {
                if ((turns.look & mask) == aims) {
                    toldWays++;
                    if (toldCost == NONE || turns.cost < toldCost) {
                        toldCost = turns.cost;
                        toldNotches = turns.notches;
                    }
                }
                turns.advance();
            }
        }

        void seatAll() {
            if (seatedAt == live.stamp) {
                return;
            }
            seatedAt = live.stamp;
            Arrays.fill(won, 0);
            Arrays.fill(throneCost, NONE);
            Arrays.fill(throneNotches, 0);
            Arrays.fill(helpers, NONE);
            turns.begin(live.stuck);
            for (int i = 0; i < turns.many; i++) {
                int who = live.chairOf(turns.look);
                if (who != NONE) {
                    seat(who);
                }
                turns.advance();
            }
        }

        private void seat(int who) {
            won[who]++;
            if (throneCost[who] == NONE || turns.cost < throneCost[who]) {
                throneCost[who] = turns.cost;
                throneNotches[who] = turns.notches;
            }
            if (helpers[who] == NONE || isLess(turns.movers, helpers[who])) {
                helpers[who] = turns.movers;
            }
        }

        private static boolean isLess(int set, int than) {
            int more = Integer.bitCount(set) - Integer.bitCount(than);
            return more < 0 || more == 0 && set < than;
        }

        boolean reaches(int who, int stuck) {
            turns.begin(stuck);
            for (int i = 0; i < turns.many; i++) {
                if (live.chairOf(turns.look) == who) {
                    return true;
                }
                turns.advance();
            }
            return false;
        }

        void pairAll() {
            if (pairedAt == live.stamp) {
                return;
            }
            pairedAt = live.stamp;
            mostKnees = NONE;
            turns.begin(live.stuck);
            for (int i = 0; i < turns.many; i++) {
                int twos = Lanes.kneesIn(turns.look, live.members);
                if (twos > mostKnees || twos == mostKnees && turns.cost < kneesCost) {
                    mostKnees = twos;
                    kneesCost = turns.cost;
                    kneesNotches = turns.notches;
                }
                turns.advance();
            }
        }
    }

    /** Looks behind one turn, and behind some turns at random. */
    private static final class Sights {
        private static final int MOST = MOST_MEMBERS * (MOST_MEMBERS - 1);

        private final State live;
        private final Turns turns;
        int many;
        final int[] turned;
        final int[] behind;
        private final int[] alike;
        final int[] chances;
        int allChances;

        Sights(State live, Turns turns) {
            this.live = live;
            this.turns = turns;
            turned = new int[MOST];
            behind = new int[MOST];
            alike = new int[MOST_MEMBERS];
            chances = new int[MOST_MEMBERS];
        }

        void list(int mask, int aims) {
            many = 0;
            turns.begin(live.stuck);
            for (int f = 0; f < turns.freeMany; f++) {
                int look = live.aims;
                for (int notches = 1; notches < live.members; notches++) {
                    look = Lanes.plus(look, turns.pullAt(f), live.members);
                    if ((look & mask) == aims && many < MOST) {
                        turned[many] = 10 * turns.freeAt(f) + notches;
                        behind[many] = look;
                        many++;
                    }
                }
            }
        }

        int mostAlike(int m) {
            Arrays.fill(alike, 0);
            int most = 0;
            for (int i = 0; i < many; i++) {
                int aim = Lanes.at(behind[i], m);
                if (aim < MOST_MEMBERS) {
                    alike[aim]++;
                    most = Math.max(most, alike[aim]);
                }
            }
            return most;
        }

        void scatter(int n) {
            Arrays.fill(chances, 0);
            turns.begin(live.stuck);
            allChances = 1;
            for (int i = 0; i < n && turns.freeMany > 0; i++) {
                allChances *= turns.freeMany;
            }
            share(this, 0, turns.freeMany > 0 ? n : 0, live.aims, 1);
        }

        /** The order of turns changes nothing, so each way to share them out counts for all its orders at once. */
        private static void share(Sights to, int f, int left, int look, int orders) {
            if (f >= to.turns.freeMany || left == 0) {
                int who = to.live.chairOf(look);
                if (left == 0 && who != NONE) {
                    to.chances[who] += orders;
                }
                return;
            }
            int there = look;
            int choices = 1;
            for (int own = 0; own <= left; own++) {
                share(to, f + 1, left - own, there, orders * choices);
                there = Lanes.plus(there, to.turns.pullAt(f), to.live.members);
                choices = choices * (left - own) / (own + 1);
            }
        }
    }

    /** The looks that come by minutes; tail and round are kept till the board changes. */
    private static final class Course {
        private static final int VOTES = 64;
        private static final int UNKNOWN = -1;
        /** Above thrice the looks of six members. */
        private static final int FAR = 200000;

        private final State live;
        private int settledAt;
        private final byte[] paces;
        int tail;
        int round;

        Course(State live) {
            this.live = live;
            settledAt = NONE;
            paces = new byte[MOST_MEMBERS * MOST_MEMBERS * VOTES];
        }

        /** Brent's way to find a round without keeping what was passed. */
        void settle() {
            if (settledAt == live.stamp) {
                return;
            }
            settledAt = live.stamp;
            Arrays.fill(paces, (byte) UNKNOWN);
            int slow = live.aims;
            int fast = behindMinute(slow);
            int stretch = 1;
            round = 1;
            for (int i = 0; i < FAR && slow != fast; i++) {
                if (round == stretch) {
                    slow = fast;
                    stretch *= 2;
                    round = 0;
                }
                fast = behindMinute(fast);
                round++;
            }
            slow = live.aims;
            fast = slow;
            for (int i = 0; i < round; i++) {
                fast = behindMinute(fast);
            }
            tail = 0;
            for (int i = 0; i < FAR && slow != fast; i++) {
                slow = behindMinute(slow);
                fast = behindMinute(fast);
                tail++;
            }
        }

        int lookIn(int n) {
            settle();
            int steps = n < tail || round < 1 ? n : tail + (n - tail) % round;
            int look = live.aims;
            for (int i = 0; i < steps; i++) {
                look = behindMinute(look);
            }
            return look;
        }

        /** Each look of the round is passed once, and counted for all the times it comes. */
        int reignOf(int m, int n) {
            settle();
            int look = live.aims;
            int times = 0;
            for (int i = 0; i <= n && i < tail + round; i++) {
                if (live.chairOf(look) == m) {
                    times += i < tail || round < 1 ? 1 : 1 + (n - i) / round;
                }
                look = behindMinute(look);
            }
            return times;
        }

        int firstOf(int m) {
            settle();
            int look = live.aims;
            for (int i = 0; i < tail + round; i++) {
                if (live.chairOf(look) == m) {
                    return i;
                }
                look = behindMinute(look);
            }
            return NONE;
        }

        private int behindMinute(int look) {
            long votes = live.votesIn(look);
            int notches = 0;
            for (int m = 0; m < live.members; m++) {
                if (!live.isStuck(m)) {
                    notches |= paceOf(m, Lanes.at(look, m), Lanes.votesAt(votes, m)) << (m << 2);
                }
            }
            return Lanes.plus(look, notches, live.members);
        }

        /** A law may be long and a round too, so each pace is reckoned once. */
        private int paceOf(int m, int aim, int votes) {
            int at = (m * MOST_MEMBERS + aim) * VOTES + votes;
            if (at < 0 || at >= paces.length) {
                return 0;
            }
            if (paces[at] == UNKNOWN) {
                paces[at] = (byte) live.pace(m, aim, votes);
            }
            return paces[at];
        }
    }
}
