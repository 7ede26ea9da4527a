import java.util.Arrays;

/** Cattle by starlight: herds, lamps and drovers on a plain, as the document's promises tell them. */
public final class StarHerds {
    /** There is none. */
    public static final int NONE = -1;

    private static final int SIDE = 14;
    private static final int SQUARES = 196;
    /** In place of a square: the herd is through. */
    private static final int THROUGH = 196;

    private static final int BOG = 1;
    private static final int WELL = 2;
    private static final int ROCK = 3;

    private static final int INNS = 9;
    /** Inns and stray lamps together; the horns' numbers begin behind them. */
    private static final int STANDING = 12;
    private static final int LAMPS = 18;
    /** In place of a lamp: cattle that are led to nobody. */
    private static final int NOBODY = 18;
    private static final int KINDS = 5;
    private static final int HORN_KIND = 5;

    private static final int HERDS = 6;
    private static final int DROVERS = 4;
    private static final int MOST_CATTLE = 999;
    private static final int MOST_COINS = 9999;
    private static final int MOST = 99;
    private static final int HOURS = 8;
    private static final int MOST_HOURS = 24;
    private static final int ODDS_HOURS = 3;
    private static final int DRAWS = 10;
    private static final int HIGHEST_SEED = 65535;
    private static final int SIGHT = 6;
    private static final int CLOUDED_SIGHT = 3;
    private static final int FRIGHT = 50;
    private static final int DEAREST = 5;
    /** The byte of a herd that is not on the plain any more. */
    private static final int NOT_ON = 255;

    private static final int TAPE_BYTES = 260;
    private static final int FEED_BYTES = 20;
    private static final int LAW_BYTES = 240;
    private static final int CLAUSES = 16;
    private static final int OPEN = 6;
    private static final int DIGITS = 5;
    /** More than six brackets in one another can need. */
    private static final int STACK = 64;

    /** The letters of clauses; the numbers below are their places in it. */
    private static final String CLAUSE_LETTERS = "azswxfbq";
    private static final int PULLS = 0;
    private static final int STAMPEDES = 1;
    private static final int SINKS = 2;
    private static final int DRIES = 3;
    private static final int DIES = 4;
    private static final int SCARES = 5;
    private static final int BEER = 6;
    private static final int CLOUDS = 7;
    private static final int[] LOWEST = {0, 0, 0, 0, 0, -99, 0, 0};
    private static final int[] HIGHEST = {999, 10, 99, 99, 99, 99, 999, 10};

    /** The letters of factors; the numbers below are their places in it. */
    private static final String FACTOR_LETTERS = "uvhntexygcrlkdp";
    private static final int LETTERS = 15;
    private static final int OF_HOUR = 0;
    private static final int OF_NIGHT = 1;
    private static final int OF_HERD = 2;
    private static final int OF_CATTLE = 3;
    private static final int OF_THIRST = 4;
    private static final int OF_FEAR = 5;
    private static final int OF_X = 6;
    private static final int OF_Y = 7;
    private static final int OF_GROUND = 8;
    private static final int OF_CLOUDS = 9;
    private static final int OF_DRAW = 10;
    private static final int OF_LAMP = 11;
    private static final int OF_KIND = 12;
    private static final int OF_WAY = 13;
    private static final int OF_PAID = 14;

    private static final int END = 0;
    private static final int NUMBER = 1;
    private static final int LETTER = 2;
    private static final int NOT = 3;
    private static final int IF_SO = 4;
    private static final int IF_NOT = 5;
    private static final int ADD = 6;
    private static final int SUBTRACT = 7;
    private static final int MULTIPLY = 8;
    private static final int DIVIDE = 9;
    private static final int REMAINDER = 10;
    private static final int BELOW = 11;
    private static final int ABOVE = 12;
    private static final int EQUAL = 13;

    private static final int[] STEP_X = {0, 1, 0, -1};
    private static final int[] STEP_Y = {1, 0, -1, 0};

    private final Outlook outlook;
    private final Plain plain;
    private final Crossing crossing;
    private final Law law;
    private final LawReader reader;
    private final Tape tape;
    private final Plain kept;
    private boolean isKept;

    public StarHerds() {
        outlook = new Outlook();
        plain = outlook.plain;
        crossing = outlook.crossing;
        law = crossing.law;
        reader = new LawReader();
        tape = reader.tape;
        kept = new Plain();
        isKept = false;
    }

    public boolean ground(int x, int y, int sort) {
        if (!isSquare(x, y) || !isIn(sort, 0, ROCK)) {
            return false;
        }
        int square = SIDE * y + x;
        if (sort == ROCK && plain.isTaken(square)) {
            return false;
        }
        plain.sorts[square] = sort;
        return true;
    }

    public boolean inn(int i, int x, int y, int kind) {
        if (!isIn(i, 0, INNS - 1)) {
            return false;
        }
        return setLamp(i, x, y, kind, false);
    }

    public boolean stray(int l, int x, int y, int kind, boolean lit) {
        if (!isIn(l, INNS, STANDING - 1)) {
            return false;
        }
        return setLamp(l, x, y, kind, lit);
    }

    public boolean gone(int l) {
        if (!plain.lamps.stands(l)) {
            return false;
        }
        plain.lamps.there[l] = false;
        return true;
    }

    public boolean dog(int i, int nights) {
        if (!isInnThere(i) || !isIn(nights, 0, MOST)) {
            return false;
        }
        plain.lamps.dog[i] = nights;
        return true;
    }

    public boolean herd(int h, int x, int y, int cattle, int thirst, int fear) {
        if (!isIn(h, 0, HERDS - 1) || !isSquare(x, y) || !isIn(cattle, 0, MOST_CATTLE)) {
            return false;
        }
        if (!isIn(thirst, 0, MOST) || !isIn(fear, 0, MOST) || plain.sortAt(SIDE * y + x) == ROCK) {
            return false;
        }
        Herds herds = plain.herds;
        herds.told[h] = true;
        herds.square[h] = SIDE * y + x;
        herds.cattle[h] = cattle;
        herds.thirst[h] = thirst;
        herds.fear[h] = fear;
        herds.burning[h] = false;
        return true;
    }

    public boolean fire(int h, boolean is) {
        if (!plain.herds.isTold(h) || plain.herds.burning[h] == is) {
            return false;
        }
        plain.herds.burning[h] = is;
        return true;
    }

    public boolean drover(int d, int coins) {
        if (!isIn(d, 0, DROVERS - 1) || !isIn(coins, 0, MOST_COINS)) {
            return false;
        }
        plain.coins[d] = coins;
        return true;
    }

    public int feed(int a, int b, int c, int d, int e) {
        if (tape.size + FEED_BYTES > TAPE_BYTES) {
            return NONE;
        }
        tape.add(a);
        tape.add(b);
        tape.add(c);
        tape.add(d);
        tape.add(e);
        return tape.size;
    }

    public int law(int n) {
        if (!isIn(n, 1, LAW_BYTES) || tape.size < n) {
            return NONE;
        }
        int answer = reader.read(n);
        tape.size = 0;
        if (answer > 0) {
            law.become(reader.draft);
        }
        return answer;
    }

    public int price(int i) {
        return isInnThere(i) ? crossing.beer(plain, i) : NONE;
    }

    public int pay(int d, int i, int nights) {
        if (!isIn(d, 0, DROVERS - 1) || !isInnThere(i) || !isIn(nights, 1, 9)) {
            return NONE;
        }
        int cost = crossing.beer(plain, i) * nights;
        if (plain.coins[d] < cost) {
            return -2;
        }
        if (plain.lamps.paid[i] + nights > MOST) {
            return -3;
        }
        plain.coins[d] -= cost;
        plain.lamps.paid[i] += nights;
        return cost;
    }

    public boolean clouds(int bits) {
        if (!isIn(bits, 0, 255)) {
            return false;
        }
        plain.clouds = bits;
        return true;
    }

    public int lit(int l) {
        if (!plain.lamps.stands(l) && !plain.herds.isTold(l - STANDING)) {
            return NONE;
        }
        return plain.isLit(l) ? 1 : 0;
    }

    public int pull(int h, int l) {
        if (!plain.herds.isOn(h) || !plain.isThere(l) || l == STANDING + h) {
            return NONE;
        }
        return crossing.pullOf(plain, h, l);
    }

    public int target(int h) {
        if (!plain.herds.isOn(h)) {
            return NONE;
        }
        int goal = crossing.goalOf(plain, h);
        return goal == NONE ? -2 : goal;
    }

    public int hours(int n) {
        return isIn(n, 1, MOST_HOURS) ? crossing.passHours(plain, n) : NONE;
    }

    public int hour(int draw) {
        return isIn(draw, 0, DRAWS - 1) ? crossing.passHour(plain, draw) : NONE;
    }

    public int tried(int n, int what) {
        if (!isIn(n, 1, MOST_HOURS) || !isTriedAsked(what)) {
            return NONE;
        }
        Plain then = outlook.trial;
        then.become(plain);
        int lost = crossing.passHours(then, n);
        if (what == 0) {
            return lost;
        }
        if (what == 1) {
            return then.herds.living();
        }
        if (what == 2) {
            return then.herds.livingThrough();
        }
        return then.herds.tell(what % 10, what / 10 == 1 ? 1 : what / 10 == 2 ? 0 : what / 10 - 1);
    }

    public int herdIs(int h, int what) {
        return plain.herds.isTold(h) ? plain.herds.tell(h, what) : NONE;
    }

    public int lampIs(int l, int what) {
        return plain.lamps.stands(l) ? plain.lamps.tell(l, what) : NONE;
    }

    public int led(int l) {
        return isIn(l, 0, NOBODY) ? plain.led[l] : NONE;
    }

    public int plan(int coins, int what) {
        if (!isIn(coins, 0, MOST_COINS) || !isIn(what, 0, 2)) {
            return NONE;
        }
        outlook.weighSets();
        outlook.takeBeers();
        int set = outlook.planBy(coins);
        if (what == 0) {
            return outlook.lampsOf(set);
        }
        return what == 1 ? outlook.costOf(set) : outlook.cameOf(set);
    }

    public int safe(int what) {
        if (!isIn(what, 0, 1)) {
            return NONE;
        }
        outlook.weighSets();
        outlook.takeBeers();
        int set = outlook.safeSet();
        if (!outlook.isSet(set)) {
            return -2;
        }
        return what == 0 ? outlook.lampsOf(set) : outlook.costOf(set);
    }

    public int place(int i, int what) {
        if (!isInnThere(i) || !isIn(what, 0, 1)) {
            return NONE;
        }
        outlook.findPlace(i);
        return what == 0 ? outlook.first : outlook.best;
    }

    public int prices(int i, int j, int coins, int what) {
        if (!isInnThere(i) || !isInnThere(j) || i == j || plain.isLit(i) || plain.isLit(j)) {
            return -3;
        }
        if (!isIn(coins, 0, MOST_COINS) || !isIn(what, 0, 2)) {
            return -3;
        }
        outlook.weighSets();
        outlook.takeBeers();
        outlook.fillGains(i, j, coins);
        outlook.findRest();
        if (what == 0) {
            return outlook.many;
        }
        if (outlook.many == 0) {
            return -2;
        }
        return what == 1 ? outlook.first / DEAREST + 1 : outlook.first % DEAREST + 1;
    }

    public int whoLit(int n, int what) {
        int on = Integer.bitCount(plain.herds.onBits());
        if (!isLeft(n) || !isIn(what, 0, 2) || on == 0 || tape.size < on) {
            return NONE;
        }
        outlook.matchSets(n, tape);
        tape.size = 0;
        if (what == 0) {
            return outlook.many;
        }
        if (outlook.many == 0) {
            return -2;
        }
        return what == 1 ? outlook.first : outlook.inAll;
    }

    public int where(int h, int n, int square, int what) {
        if (!plain.herds.isOn(h) || !isLeft(n) || !isIn(square, 0, SQUARES - 1) || !isIn(what, 0, 1)) {
            return NONE;
        }
        outlook.findWhere(h, n, square);
        if (what == 0) {
            return outlook.many;
        }
        return outlook.many == 0 ? -2 : outlook.first;
    }

    public int odds(int n, int living, int what) {
        if (!isIn(n, 1, ODDS_HOURS) || !isIn(living, 0, MOST_COINS) || !isIn(what, 0, 1)) {
            return NONE;
        }
        int above = outlook.countDraws(n, living);
        int below = n == 1 ? 10 : n == 2 ? 100 : 1000;
        int divisor = commonDivisor(above, below);
        if (divisor == 0) {
            return NONE;
        }
        return (what == 0 ? above : below) / divisor;
    }

    public boolean seed(int x) {
        if (!isIn(x, 0, HIGHEST_SEED)) {
            return false;
        }
        plain.x = x;
        return true;
    }

    public int clouded() {
        for (int u = plain.hour; u < HOURS; u++) {
            int drawn = plain.draw();
            int bit = 1 << u;
            plain.clouds &= ~bit;
            if (drawn < crossing.cloudTenths(plain, u)) {
                plain.clouds |= bit;
            }
        }
        return plain.clouds;
    }

    public int keep() {
        kept.become(plain);
        isKept = true;
        return plain.herds.living();
    }

    public boolean undo() {
        if (!isKept) {
            return false;
        }
        plain.become(kept);
        return true;
    }

    public int check(int n) {
        if (!isIn(n, 0, HERDS) || tape.size < 4 * n) {
            return -2;
        }
        tape.size = 0;
        for (int h = 0; h < n && h < HERDS; h++) {
            int cattle = plain.herds.isTold(h) ? plain.herds.cattle[h] : 0;
            if (tape.numberAt(4 * h) != cattle) {
                return h;
            }
        }
        return NONE;
    }

    public int count(int what) {
        if (isIn(what, 10, 10 + DROVERS - 1)) {
            return plain.coins[what - 10];
        }
        if (isIn(what, 100, 100 + SQUARES - 1)) {
            return plain.sorts[what - 100];
        }
        switch (what) {
            case 0: return plain.night;
            case 1: return plain.hour;
            case 2: return plain.clouds;
            case 3: return law.clauses;
            case 4: return tape.size;
            case 5: return plain.x;
            case 6: return plain.herds.toldBits();
            case 7: return plain.herds.onBits();
            case 8: return plain.litBits();
            case 9: return plain.herds.living();
            default: return NONE;
        }
    }

    private boolean setLamp(int l, int x, int y, int kind, boolean isLit) {
        if (!isIn(l, 0, STANDING - 1) || !isSquare(x, y) || !isIn(kind, 0, KINDS - 1)) {
            return false;
        }
        if (plain.sortAt(SIDE * y + x) == ROCK) {
            return false;
        }
        Lamps lamps = plain.lamps;
        lamps.there[l] = true;
        lamps.square[l] = SIDE * y + x;
        lamps.kind[l] = kind;
        lamps.paid[l] = 0;
        lamps.dog[l] = 0;
        lamps.toldLit[l] = isLit;
        return true;
    }

    private boolean isInnThere(int i) {
        return i < INNS && plain.lamps.stands(i);
    }

    /** Whether so many hours (1 to 8) do not go beyond the night. */
    private boolean isLeft(int n) {
        return isIn(n, 1, HOURS) && plain.hour + n <= HOURS;
    }

    private boolean isTriedAsked(int what) {
        return isIn(what, 0, 2) || isIn(what / 10, 1, 4) && plain.herds.isTold(what % 10);
    }

    private static boolean isIn(int number, int low, int high) {
        return number >= low && number <= high;
    }

    private static boolean isSquare(int x, int y) {
        return x >= 0 && x < SIDE && y >= 0 && y < SIDE;
    }

    private static int commonDivisor(int a, int b) {
        int large = a;
        int small = b;
        for (int k = 0; k < 100 && small != 0; k++) {
            int rest = large % small;
            large = small;
            small = rest;
        }
        return large;
    }

    /** Bytes that are fed and wait for a call that reads them. */
    private static final class Tape {
        private final int[] bytes = new int[TAPE_BYTES];
        private int size = 0;

        private void add(int number) {
            for (int shift = 24; shift >= 0 && size < TAPE_BYTES; shift -= 8) {
                bytes[size] = number >>> shift & 255;
                size++;
            }
        }

        private int byteAt(int at) {
            return at >= 0 && at < TAPE_BYTES ? bytes[at] : 0;
        }

        private int numberAt(int at) {
            return byteAt(at) << 24 | byteAt(at + 1) << 16 | byteAt(at + 2) << 8 | byteAt(at + 3);
        }
    }

    /** The law as code for a machine with a stack: a clause's E and its C, each up to an END. */
    private static final class Law {
        private final int[] ops = new int[LAW_BYTES];
        private final int[] args = new int[LAW_BYTES];
        private int size = 0;
        private final int[] letterOf = new int[CLAUSES];
        private final int[] amountAt = new int[CLAUSES];
        private final int[] whenAt = new int[CLAUSES];
        private int clauses = 0;
        private final int[] stack = new int[STACK];
        /** What the last run came to: of a C whether it holds, of an E its value. */
        private boolean holds = false;
        private int value = 0;

        private void clear() {
            size = 0;
            clauses = 0;
        }

        private void become(Law other) {
            System.arraycopy(other.ops, 0, ops, 0, LAW_BYTES);
            System.arraycopy(other.args, 0, args, 0, LAW_BYTES);
            System.arraycopy(other.letterOf, 0, letterOf, 0, CLAUSES);
            System.arraycopy(other.amountAt, 0, amountAt, 0, CLAUSES);
            System.arraycopy(other.whenAt, 0, whenAt, 0, CLAUSES);
            size = other.size;
            clauses = other.clauses;
        }

        /** Adds a step; its place. */
        private int add(int op, int arg) {
            if (size < 0 || size >= LAW_BYTES) {
                return NONE;
            }
            ops[size] = op;
            args[size] = arg;
            size++;
            return size - 1;
        }

        /** Lets a jump that was added before (NONE: none was) end at the next step to be added. */
        private void aim(int jump) {
            if (jump >= 0 && jump < LAW_BYTES) {
                args[jump] = size;
            }
        }

        private void addClause(int letter, int amount, int when) {
            if (clauses >= 0 && clauses < CLAUSES) {
                letterOf[clauses] = letter;
                amountAt[clauses] = amount;
                whenAt[clauses] = when;
                clauses++;
            }
        }

        /** What the first clause of a letter that holds says, within the letter's bounds. */
        private int ask(int letter, int[] letters) {
            if (letter < 0 || letter >= LOWEST.length || letter >= HIGHEST.length) {
                return 0;
            }
            for (int c = 0; c < clauses && c < CLAUSES; c++) {
                if (letterOf[c] == letter && run(whenAt[c], letters) && holds) {
                    int said = run(amountAt[c], letters) ? value : 0;
                    return Math.max(LOWEST[letter], Math.min(HIGHEST[letter], said));
                }
            }
            return 0;
        }

        /** Runs the steps from a place on to their END; false: refused, as something was divided by 0. */
        private boolean run(int start, int[] letters) {
            int top = 0;
            holds = false;
            value = 0;
            for (int at = Math.max(start, 0); at < size && at < LAW_BYTES; at++) {
                int op = ops[at];
                int arg = args[at];
                if (op == END) {
                    value = top > 0 && top <= STACK ? stack[top - 1] : 0;
                    return true;
                } else if (op == NUMBER || op == LETTER) {
                    if (top < 0 || top >= STACK) {
                        return false;
                    }
                    stack[top] = op == NUMBER ? arg : arg >= 0 && arg < letters.length ? letters[arg] : 0;
                    top++;
                } else if (op == NOT) {
                    holds = !holds;
                } else if (op == IF_SO || op == IF_NOT) {
                    // The step count goes on behind this one, so a jump ends one step ahead of its aim.
                    at = holds == (op == IF_SO) ? Math.max(at, arg - 1) : at;
                } else {
                    if (top < 2 || top > STACK) {
                        return false;
                    }
                    top--;
                    int right = stack[top];
                    int left = stack[top - 1];
                    if (op >= BELOW) {
                        top--;
                        holds = op == BELOW ? left < right : op == ABOVE ? left > right : left == right;
                    } else if (op >= DIVIDE) {
                        if (right == 0) {
                            return false;
                        }
                        stack[top - 1] = op == DIVIDE ? left / right : left % right;
                    } else {
                        stack[top - 1] = op == ADD ? left + right : op == SUBTRACT ? left - right : left * right;
                    }
                }
            }
            return false;
        }
    }

    /** Reads a text of the law, from the left on to its first fault. */
    private static final class LawReader {
        private final Tape tape = new Tape();
        private final Law draft = new Law();
        private int at = 0;
        private int end = 0;
        /** The byte that stands next; NONE: the end. */
        private int sign = NONE;
        private int fault = 0;

        /** Reads the first n bytes of the tape into the draft: how many clauses, or the fault. */
        private int read(int n) {
            draft.clear();
            end = n;
            goTo(0);
            fault = 0;
            for (int k = 0; k <= CLAUSES; k++) {
                if (!readClause()) {
                    return fault;
                }
                if (sign == NONE) {
                    return draft.clauses;
                }
                if (!take(';')) {
                    return fault;
                }
            }
            return fault;
        }

        private boolean readClause() {
            int letter = placeIn(CLAUSE_LETTERS);
            if (letter == NONE) {
                return fail(1);
            }
            if (draft.clauses >= CLAUSES) {
                return fail(4);
            }
            goTo(at + 1);
            int amount = draft.size;
            if (!readSum(0)) {
                return false;
            }
            draft.add(END, 0);
            int when = draft.size;
            if (!take('(') || !readChoice(1) || !take(')')) {
                return false;
            }
            draft.add(END, 0);
            draft.addClause(letter, amount, when);
            return true;
        }

        /** Reads a C while so many ( [ ! are open. */
        private boolean readChoice(int open) {
            int jump = NONE;
            for (int k = 0; k < LAW_BYTES; k++) {
                if (!readPart(open)) {
                    return false;
                }
                // A jump that is taken ends at the next one, which is then taken likewise.
                draft.aim(jump);
                if (sign != '|') {
                    return true;
                }
                goTo(at + 1);
                jump = draft.add(IF_SO, 0);
            }
            return fail(1);
        }

        private boolean readPart(int open) {
            int jump = NONE;
            for (int k = 0; k < LAW_BYTES; k++) {
                if (!readPiece(open)) {
                    return false;
                }
                draft.aim(jump);
                if (sign != '&') {
                    return true;
                }
                goTo(at + 1);
                jump = draft.add(IF_NOT, 0);
            }
            return fail(1);
        }

        private boolean readPiece(int open) {
            if (sign != '!' && sign != '(') {
                return readComparison(open);
            }
            if (open >= OPEN) {
                return fail(5);
            }
            boolean isNot = sign == '!';
            goTo(at + 1);
            if (!isNot) {
                return readChoice(open + 1) && take(')');
            }
            if (!readPiece(open + 1)) {
                return false;
            }
            draft.add(NOT, 0);
            return true;
        }

        private boolean readComparison(int open) {
            if (!readSum(open)) {
                return false;
            }
            int op = sign == '<' ? BELOW : sign == '>' ? ABOVE : sign == '=' ? EQUAL : END;
            if (op == END) {
                return fail(1);
            }
            goTo(at + 1);
            if (!readSum(open)) {
                return false;
            }
            draft.add(op, 0);
            return true;
        }

        /** Reads an E while so many ( [ ! are open. */
        private boolean readSum(int open) {
            int op = END;
            for (int k = 0; k < LAW_BYTES; k++) {
                if (!readTerm(open)) {
                    return false;
                }
                if (op != END) {
                    draft.add(op, 0);
                }
                op = sign == '+' ? ADD : sign == '-' ? SUBTRACT : END;
                if (op == END) {
                    return true;
                }
                goTo(at + 1);
            }
            return fail(1);
        }

        private boolean readTerm(int open) {
            int op = END;
            for (int k = 0; k < LAW_BYTES; k++) {
                if (!readFactor(open)) {
                    return false;
                }
                if (op != END) {
                    draft.add(op, 0);
                }
                op = sign == '*' ? MULTIPLY : sign == '/' ? DIVIDE : sign == '%' ? REMAINDER : END;
                if (op == END) {
                    return true;
                }
                goTo(at + 1);
            }
            return fail(1);
        }

        private boolean readFactor(int open) {
            if (sign >= '0' && sign <= '9') {
                return readNumber();
            }
            if (sign == '[') {
                if (open >= OPEN) {
                    return fail(5);
                }
                goTo(at + 1);
                return readSum(open + 1) && take(']');
            }
            int letter = placeIn(FACTOR_LETTERS);
            if (letter == NONE) {
                return fail(1);
            }
            goTo(at + 1);
            draft.add(LETTER, letter);
            return true;
        }

        private boolean readNumber() {
            int number = 0;
            for (int digits = 0; sign >= '0' && sign <= '9'; digits++) {
                if (digits >= DIGITS) {
                    return fail(2);
                }
                number = 10 * number + sign - '0';
                goTo(at + 1);
            }
            draft.add(NUMBER, number);
            return true;
        }

        private void goTo(int place) {
            at = place;
            sign = place >= 0 && place < end && place < TAPE_BYTES ? tape.bytes[place] : NONE;
        }

        private int placeIn(String letters) {
            return sign == NONE ? NONE : letters.indexOf((char) sign);
        }

        private boolean take(int wanted) {
            if (sign != wanted) {
                return fail(1);
            }
            goTo(at + 1);
            return true;
        }

        private boolean fail(int number) {
            fault = -1000 * number - at;
            return false;
        }
    }

    /** Inns (0 to 8) and stray lamps (9 to 11). */
    private static final class Lamps {
        private final boolean[] there = new boolean[STANDING];
        private final int[] square = new int[STANDING];
        private final int[] kind = new int[STANDING];
        private final int[] paid = new int[STANDING];
        private final int[] dog = new int[STANDING];
        private final boolean[] toldLit = new boolean[STANDING];

        private void become(Lamps other) {
            System.arraycopy(other.there, 0, there, 0, STANDING);
            System.arraycopy(other.square, 0, square, 0, STANDING);
            System.arraycopy(other.kind, 0, kind, 0, STANDING);
            System.arraycopy(other.paid, 0, paid, 0, STANDING);
            System.arraycopy(other.dog, 0, dog, 0, STANDING);
            System.arraycopy(other.toldLit, 0, toldLit, 0, STANDING);
        }

        private boolean stands(int l) {
            return l >= 0 && l < STANDING && there[l];
        }

        private boolean isLit(int l) {
            if (l < 0 || l >= STANDING || !there[l]) {
                return false;
            }
            return l < INNS ? paid[l] > 0 || dog[l] > 0 : toldLit[l];
        }

        /** Lights a lamp (an inn for this night) or, if it is a stray one, puts it out. */
        private void light(int l, boolean isLit) {
            if (l >= INNS && l < STANDING) {
                toldLit[l] = isLit;
            } else if (l >= 0 && l < INNS && isLit) {
                dog[l] = Math.max(dog[l], 1);
            }
        }

        private void endNight() {
            for (int i = 0; i < INNS; i++) {
                paid[i] = Math.max(paid[i] - 1, 0);
                dog[i] = Math.max(dog[i] - 1, 0);
            }
        }

        private int tell(int l, int what) {
            if (!stands(l)) {
                return NONE;
            }
            switch (what) {
                case 0: return square[l];
                case 1: return kind[l];
                case 2: return paid[l];
                case 3: return dog[l];
                default: return NONE;
            }
        }
    }

    /** The herds, told or not. */
    private static final class Herds {
        private final boolean[] told = new boolean[HERDS];
        private final int[] square = new int[HERDS];
        private final int[] cattle = new int[HERDS];
        private final int[] thirst = new int[HERDS];
        private final int[] fear = new int[HERDS];
        private final boolean[] burning = new boolean[HERDS];

        private void become(Herds other) {
            System.arraycopy(other.told, 0, told, 0, HERDS);
            System.arraycopy(other.square, 0, square, 0, HERDS);
            System.arraycopy(other.cattle, 0, cattle, 0, HERDS);
            System.arraycopy(other.thirst, 0, thirst, 0, HERDS);
            System.arraycopy(other.fear, 0, fear, 0, HERDS);
            System.arraycopy(other.burning, 0, burning, 0, HERDS);
        }

        private boolean isTold(int h) {
            return h >= 0 && h < HERDS && told[h];
        }

        private boolean isOn(int h) {
            return h >= 0 && h < HERDS && told[h] && cattle[h] > 0 && square[h] != THROUGH;
        }

        private int toldBits() {
            int bits = 0;
            for (int h = 0; h < HERDS; h++) {
                bits |= told[h] ? 1 << h : 0;
            }
            return bits;
        }

        private int onBits() {
            int bits = 0;
            for (int h = 0; h < HERDS; h++) {
                bits |= isOn(h) ? 1 << h : 0;
            }
            return bits;
        }

        private int living() {
            int sum = 0;
            for (int h = 0; h < HERDS; h++) {
                sum += told[h] ? cattle[h] : 0;
            }
            return sum;
        }

        private int livingThrough() {
            int sum = 0;
            for (int h = 0; h < HERDS; h++) {
                sum += told[h] && square[h] == THROUGH ? cattle[h] : 0;
            }
            return sum;
        }

        private int tell(int h, int what) {
            if (!isTold(h)) {
                return NONE;
            }
            switch (what) {
                case 0: return square[h];
                case 1: return cattle[h];
                case 2: return thirst[h];
                case 3: return fear[h];
                case 4: return burning[h] ? 1 : 0;
                case 5: return isOn(h) ? 1 : 0;
                default: return NONE;
            }
        }
    }

    /** All that is kept and undone. */
    private static final class Plain {
        private final int[] sorts = new int[SQUARES];
        private final Lamps lamps = new Lamps();
        private final Herds herds = new Herds();
        private final int[] coins = new int[DROVERS];
        private final int[] led = new int[LAMPS + 1];
        private int night = 0;
        private int hour = 0;
        private int clouds = 0;
        private int x = 1;

        private void become(Plain other) {
            System.arraycopy(other.sorts, 0, sorts, 0, SQUARES);
            lamps.become(other.lamps);
            herds.become(other.herds);
            System.arraycopy(other.coins, 0, coins, 0, DROVERS);
            System.arraycopy(other.led, 0, led, 0, LAMPS + 1);
            night = other.night;
            hour = other.hour;
            clouds = other.clouds;
            x = other.x;
        }

        /** The sort of a square; what is not in the plain counts as rock. */
        private int sortAt(int square) {
            return square >= 0 && square < SQUARES ? sorts[square] : ROCK;
        }

        /** Whether a lamp or a herd that is on stands in the way of a rock. */
        private boolean isTaken(int square) {
            for (int l = 0; l < STANDING; l++) {
                if (lamps.stands(l) && lamps.square[l] == square) {
                    return true;
                }
            }
            for (int h = 0; h < HERDS; h++) {
                if (herds.isOn(h) && herds.square[h] == square) {
                    return true;
                }
            }
            return false;
        }

        /** Whether a lamp has a place on the plain: horns, while their herd is on. */
        private boolean isThere(int l) {
            return l < STANDING ? lamps.stands(l) : herds.isOn(l - STANDING);
        }

        private boolean isLit(int l) {
            if (l < STANDING) {
                return lamps.isLit(l);
            }
            return herds.isOn(l - STANDING) && herds.burning[l - STANDING];
        }

        private int litBits() {
            int bits = 0;
            for (int l = 0; l < LAMPS; l++) {
                bits |= isLit(l) ? 1 << l : 0;
            }
            return bits;
        }

        private int squareOfLamp(int l) {
            if (l < 0 || l >= LAMPS) {
                return 0;
            }
            return l < STANDING ? lamps.square[l] : herds.square[l - STANDING];
        }

        private int kindOfLamp(int l) {
            return l >= 0 && l < STANDING ? lamps.kind[l] : HORN_KIND;
        }

        private boolean isClouded() {
            return (clouds >> hour & 1) == 1;
        }

        private int draw() {
            x = 25173 * x + 13849 & HIGHEST_SEED;
            return x % DRAWS;
        }

        private int hoursLeft() {
            return HOURS - hour;
        }

        private void endHour() {
            hour++;
            if (hour >= HOURS) {
                hour = 0;
                night++;
                clouds = 0;
                lamps.endNight();
            }
        }
    }

    /** Moves herds over a plain by the law. */
    private static final class Crossing {
        private final Law law = new Law();
        private final int[] letters = new int[LETTERS];
        /** Bits of the lamps for which it mattered, since this was 0, whether they are lit. */
        private int asked = 0;

        /** Passes hours by the draws that come: how many are lost. */
        private int passHours(Plain plain, int n) {
            int lost = 0;
            for (int k = 0; k < n; k++) {
                lost += passHour(plain, plain.draw());
            }
            return lost;
        }

        private int passHour(Plain plain, int draw) {
            int lost = 0;
            for (int h = 0; h < HERDS; h++) {
                if (plain.herds.isOn(h)) {
                    lost += moveHerd(plain, h, draw);
                }
            }
            plain.endHour();
            return lost;
        }

        private int moveHerd(Plain plain, int h, int draw) {
            Herds herds = plain.herds;
            int goal = goalOf(plain, h);
            if (herds.fear[h] >= FRIGHT && draw < askOf(plain, h, STAMPEDES, draw)) {
                goal = NONE;
                stampede(plain, h, draw);
            } else if (goal != NONE) {
                follow(plain, h, plain.squareOfLamp(goal));
            } else {
                goOn(plain, h);
            }
            if (!herds.isOn(h)) {
                return 0;
            }
            int lost = 0;
            int sort = plain.sortAt(herds.square[h]);
            if (sort == BOG) {
                lost += lose(herds, h, askOf(plain, h, SINKS, draw));
            }
            int drier = sort == WELL ? 0 : herds.thirst[h] + askOf(plain, h, DRIES, draw);
            herds.thirst[h] = Math.min(drier, MOST);
            if (herds.thirst[h] == MOST) {
                lost += lose(herds, h, askOf(plain, h, DIES, draw));
            }
            int scared = herds.fear[h] + askOf(plain, h, SCARES, draw);
            herds.fear[h] = Math.max(0, Math.min(MOST, scared));
            plain.led[goal >= 0 && goal < LAMPS ? goal : NOBODY] += lost;
            return lost;
        }

        private int lose(Herds herds, int h, int most) {
            int lost = Math.min(most, herds.cattle[h]);
            herds.cattle[h] -= lost;
            return lost;
        }

        private void stampede(Plain plain, int h, int draw) {
            int direction = draw & 3;
            for (int k = 0; k < 2; k++) {
                step(plain, h, STEP_X[direction], STEP_Y[direction]);
            }
        }

        private void follow(Plain plain, int h, int goal) {
            int from = plain.herds.square[h];
            int dx = goal % SIDE - from % SIDE;
            int dy = goal / SIDE - from / SIDE;
            int stepX = Integer.compare(dx, 0);
            int stepY = Integer.compare(dy, 0);
            if (dx == 0 && dy == 0) {
                return;
            }
            if (Math.abs(dx) >= Math.abs(dy)) {
                if (!step(plain, h, stepX, 0) && dy != 0) {
                    step(plain, h, 0, stepY);
                }
            } else if (!step(plain, h, 0, stepY) && dx != 0) {
                step(plain, h, stepX, 0);
            }
        }

        /** Without a target: on to the far side, or through it. */
        private void goOn(Plain plain, int h) {
            if (plain.herds.square[h] / SIDE == SIDE - 1) {
                plain.herds.square[h] = THROUGH;
            } else {
                step(plain, h, 0, 1);
            }
        }

        /** Goes one square, if that is in the plain and no rock: whether it went. */
        private boolean step(Plain plain, int h, int dx, int dy) {
            int x = plain.herds.square[h] % SIDE + dx;
            int y = plain.herds.square[h] / SIDE + dy;
            if (!isSquare(x, y) || plain.sortAt(SIDE * y + x) == ROCK) {
                return false;
            }
            plain.herds.square[h] = SIDE * y + x;
            return true;
        }

        /** The target of a herd that is on; NONE: none. */
        private int goalOf(Plain plain, int h) {
            int sight = plain.isClouded() ? CLOUDED_SIGHT : SIGHT;
            int goal = NONE;
            int most = 0;
            tellHerd(plain, h, 0);
            for (int l = 0; l < LAMPS; l++) {
                if (l == STANDING + h || !plain.isThere(l)) {
                    continue;
                }
                tellLamp(plain, h, l);
                if (letters[OF_WAY] > sight) {
                    continue;
                }
                asked |= 1 << l;
                int pull = plain.isLit(l) ? law.ask(PULLS, letters) : 0;
                if (pull > most) {
                    most = pull;
                    goal = l;
                }
            }
            return goal;
        }

        private int pullOf(Plain plain, int h, int l) {
            tellHerd(plain, h, 0);
            tellLamp(plain, h, l);
            return law.ask(PULLS, letters);
        }

        private int askOf(Plain plain, int h, int letter, int draw) {
            tellHerd(plain, h, draw);
            return law.ask(letter, letters);
        }

        /** What the beer of an inn costs now. */
        private int beer(Plain plain, int i) {
            tellTime(plain, plain.hour);
            letters[OF_LAMP] = i;
            letters[OF_KIND] = plain.kindOfLamp(i);
            letters[OF_PAID] = Math.max(plain.lamps.tell(i, 2), 0);
            return law.ask(BEER, letters);
        }

        private int cloudTenths(Plain plain, int hour) {
            tellTime(plain, hour);
            return law.ask(CLOUDS, letters);
        }

        private void tellTime(Plain plain, int hour) {
            Arrays.fill(letters, 0);
            letters[OF_HOUR] = hour;
            letters[OF_NIGHT] = plain.night;
        }

        private void tellHerd(Plain plain, int h, int draw) {
            Herds herds = plain.herds;
            int square = herds.square[h];
            tellTime(plain, plain.hour);
            letters[OF_HERD] = h;
            letters[OF_CATTLE] = herds.cattle[h];
            letters[OF_THIRST] = herds.thirst[h];
            letters[OF_FEAR] = herds.fear[h];
            letters[OF_X] = square % SIDE;
            letters[OF_Y] = square / SIDE;
            letters[OF_GROUND] = plain.sortAt(square);
            letters[OF_CLOUDS] = plain.isClouded() ? 1 : 0;
            letters[OF_DRAW] = draw;
        }

        private void tellLamp(Plain plain, int h, int l) {
            int from = plain.herds.square[h];
            int to = plain.squareOfLamp(l);
            letters[OF_LAMP] = l;
            letters[OF_KIND] = plain.kindOfLamp(l);
            letters[OF_WAY] = Math.abs(to % SIDE - from % SIDE) + Math.abs(to / SIDE - from / SIDE);
        }
    }

    /** Tries what would come: of sets of lamps, of squares, of draws; the plain itself stays. */
    private static final class Outlook {
        private static final int SETS = 512;

        private final Plain plain = new Plain();
        private final Crossing crossing = new Crossing();
        private final Plain trial = new Plain();
        /** The plain behind so many drawn hours; the first is as it is now. */
        private final Plain[] drawn = {new Plain(), new Plain(), new Plain(), new Plain()};
        /** The lamps of which sets are tried: bit b of a set is the b-th one. */
        private final int[] choice = new int[INNS];
        private int choices = 0;
        private final int[] came = new int[SETS];
        private final int[] costs = new int[SETS];
        private final int[] beers = new int[INNS];
        private final int[] gains = new int[DEAREST * DEAREST];
        private final int[] otherGains = new int[DEAREST * DEAREST];
        /** What was found: how many, the first, what is in all, the most living. */
        private int many = 0;
        private int first = NONE;
        private int inAll = 0;
        private int best = NONE;

        /** Fills in for each set of inns that are not lit how many live at the night's end. */
        private void weighSets() {
            choices = 0;
            chooseInns(INNS);
            Arrays.fill(came, NONE);
            for (int set = 0; set < SETS && isSet(set); set++) {
                if (came[set] == NONE) {
                    lightSet(set);
                    crossing.passHours(trial, plain.hoursLeft());
                    note(set, trial.herds.living());
                }
            }
        }

        /** Finds the sets by which herds come to the squares on a tape. */
        private void matchSets(int n, Tape tape) {
            choices = 0;
            chooseInns(5);
            chooseStrays();
            Arrays.fill(came, NONE);
            clearFound();
            for (int set = 0; set < SETS && isSet(set); set++) {
                if (came[set] == NONE) {
                    lightSet(set);
                    crossing.passHours(trial, n);
                    note(set, isAsSeen(tape) ? 1 : 0);
                }
                if (came[set] == 1) {
                    inAll = many == 0 ? lampsOf(set) : inAll & lampsOf(set);
                    found(lampsOf(set));
                }
            }
        }

        private void chooseInns(int most) {
            for (int i = 0; i < INNS && choices < most; i++) {
                if (plain.lamps.stands(i) && !plain.lamps.isLit(i) && choices < choice.length) {
                    choice[choices] = i;
                    choices++;
                }
            }
        }

        private void chooseStrays() {
            for (int l = INNS; l < STANDING; l++) {
                if (plain.lamps.stands(l) && choices < choice.length) {
                    choice[choices] = l;
                    choices++;
                }
            }
        }

        private boolean isSet(int set) {
            return set >= 0 && set < SETS && set < 1 << choices;
        }

        private void lightSet(int set) {
            trial.become(plain);
            for (int b = 0; b < choices && b < choice.length; b++) {
                trial.lamps.light(choice[b], (set >> b & 1) == 1);
            }
            crossing.asked = 0;
        }

        /** Notes what came of a set, for all sets that differ in lamps alone for which it did not matter. */
        private void note(int set, int outcome) {
            int mattered = 0;
            for (int b = 0; b < choices && b < choice.length; b++) {
                mattered |= (crossing.asked >> choice[b] & 1) << b;
            }
            for (int other = set; other < SETS && isSet(other); other++) {
                if (((other ^ set) & mattered) == 0) {
                    came[other] = outcome;
                }
            }
        }

        private int lampsOf(int set) {
            int bits = 0;
            for (int b = 0; b < choices && b < choice.length; b++) {
                bits |= (set >> b & 1) << choice[b];
            }
            return bits;
        }

        private int cameOf(int set) {
            return isSet(set) ? came[set] : NONE;
        }

        private int costOf(int set) {
            return isSet(set) ? costs[set] : 0;
        }

        private boolean isAsSeen(Tape tape) {
            int told = 0;
            for (int h = 0; h < HERDS; h++) {
                if (plain.herds.isOn(h)) {
                    int seen = trial.herds.isOn(h) ? trial.herds.square[h] : NOT_ON;
                    if (tape.byteAt(told) != seen) {
                        return false;
                    }
                    told++;
                }
            }
            return true;
        }

        private void takeBeers() {
            for (int i = 0; i < INNS; i++) {
                beers[i] = plain.lamps.stands(i) ? crossing.beer(plain, i) : 0;
            }
            fillCosts();
        }

        private void fillCosts() {
            costs[0] = 0;
            for (int set = 1; set < SETS && isSet(set); set++) {
                int b = Integer.numberOfTrailingZeros(set);
                int rest = set & set - 1;
                int lamp = b < choice.length ? choice[b] : NONE;
                costs[set] = costOf(rest) + (lamp >= 0 && lamp < INNS ? beers[lamp] : 0);
            }
        }

        /** The set of the plan by so many coins. */
        private int planBy(int coins) {
            int chosen = 0;
            for (int set = 1; set < SETS && isSet(set); set++) {
                boolean isBetter = came[set] > cameOf(chosen)
                        || came[set] == cameOf(chosen) && costs[set] < costOf(chosen);
                if (costs[set] <= coins && isBetter) {
                    chosen = set;
                }
            }
            return chosen;
        }

        /** The cheapest set by which none is lost; NONE: there is no such set. */
        private int safeSet() {
            int living = plain.herds.living();
            int safest = NONE;
            for (int set = 0; set < SETS && isSet(set); set++) {
                if (came[set] == living && (!isSet(safest) || costs[set] < costOf(safest))) {
                    safest = set;
                }
            }
            return safest;
        }

        /** Fills in what two inns gain by each two prices: place 5 (the one's - 1) + (the other's - 1). */
        private void fillGains(int i, int j, int coins) {
            if (!isIn(i, 0, INNS - 1) || !isIn(j, 0, INNS - 1)) {
                return;
            }
            for (int two = 0; two < DEAREST * DEAREST; two++) {
                beers[i] = two / DEAREST + 1;
                beers[j] = two % DEAREST + 1;
                fillCosts();
                int lamps = lampsOf(planBy(coins));
                gains[two] = (lamps >> i & 1) * beers[i];
                otherGains[two] = (lamps >> j & 1) * beers[j];
            }
        }

        private void findRest() {
            clearFound();
            for (int two = 0; two < DEAREST * DEAREST; two++) {
                boolean rests = true;
                for (int p = 0; p < DEAREST; p++) {
                    rests &= gains[DEAREST * p + two % DEAREST] <= gains[two];
                    rests &= otherGains[two - two % DEAREST + p] <= otherGains[two];
                }
                if (rests) {
                    found(two);
                }
            }
        }

        /** Finds the square where an inn that is lit had best stand. */
        private void findPlace(int i) {
            clearFound();
            for (int square = 0; square < SQUARES; square++) {
                if (plain.sortAt(square) == ROCK || !plain.lamps.stands(i)) {
                    continue;
                }
                trial.become(plain);
                trial.lamps.light(i, true);
                trial.lamps.square[i] = square;
                crossing.passHours(trial, plain.hoursLeft());
                if (trial.herds.living() > best) {
                    best = trial.herds.living();
                    first = square;
                }
            }
        }

        /** Finds the squares from which a herd comes to a told one. */
        private void findWhere(int h, int n, int told) {
            clearFound();
            for (int square = 0; square < SQUARES; square++) {
                if (plain.sortAt(square) == ROCK || !plain.herds.isOn(h)) {
                    continue;
                }
                trial.become(plain);
                trial.herds.square[h] = square;
                crossing.passHours(trial, n);
                if (trial.herds.isOn(h) && trial.herds.square[h] == told) {
                    found(square);
                }
            }
        }

        private void clearFound() {
            many = 0;
            first = NONE;
            inAll = 0;
            best = NONE;
        }

        private void found(int what) {
            first = many == 0 ? what : first;
            many++;
        }

        /** By how many draws of n hours so many are living. */
        private int countDraws(int n, int living) {
            drawn[0].become(plain);
            return countBehind(0, n, living);
        }

        private int countBehind(int passed, int n, int living) {
            if (passed < 0 || passed >= drawn.length) {
                return 0;
            }
            if (passed >= n || passed + 1 >= drawn.length) {
                return drawn[passed].herds.living() >= living ? 1 : 0;
            }
            int sum = 0;
            for (int draw = 0; draw < DRAWS; draw++) {
                drawn[passed + 1].become(drawn[passed]);
                crossing.passHour(drawn[passed + 1], draw);
                sum += countBehind(passed + 1, n, living);
            }
            return sum;
        }
    }
}
