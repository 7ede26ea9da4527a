import java.util.ArrayList;
import java.util.Arrays;
import java.util.HashSet;
import java.util.List;
import java.util.Set;
import java.util.TreeSet;

/**
 * The document once more, written anew in the plainest way for RandomTest to hold against StarHerds: it reads the
 * law's text each time it asks it, copies all for each trial and leaves nothing out that could be spared.
 */
final class SlowHerds {
    private static final class Refused extends RuntimeException {
        private static final long serialVersionUID = 1L;
    }

    private static final class Fault extends RuntimeException {
        private static final long serialVersionUID = 1L;
        final int answer;

        Fault(int number, int place) {
            answer = -1000 * number - place;
        }
    }

    private static final class Lamp {
        int square;
        int kind;
        int paid;
        int dog;
        boolean lit;

        Lamp copy() {
            Lamp c = new Lamp();
            c.square = square;
            c.kind = kind;
            c.paid = paid;
            c.dog = dog;
            c.lit = lit;
            return c;
        }
    }

    private static final class Herd {
        int square;
        int cattle;
        int thirst;
        int fear;
        boolean fire;
        boolean through;

        boolean on() {
            return cattle > 0 && !through;
        }

        Herd copy() {
            Herd c = new Herd();
            c.square = square;
            c.cattle = cattle;
            c.thirst = thirst;
            c.fear = fear;
            c.fire = fire;
            c.through = through;
            return c;
        }
    }

    private static final class World {
        int[] sort = new int[196];
        Lamp[] lamp = new Lamp[12];
        Herd[] herd = new Herd[6];
        int[] coins = new int[4];
        int[] led = new int[19];
        int night;
        int hour;
        int clouds;
        int x = 1;
        Set<Integer> besides = new HashSet<>();

        World copy() {
            World c = new World();
            c.sort = sort.clone();
            for (int l = 0; l < 12; l++) {
                c.lamp[l] = lamp[l] == null ? null : lamp[l].copy();
            }
            for (int h = 0; h < 6; h++) {
                c.herd[h] = herd[h] == null ? null : herd[h].copy();
            }
            c.coins = coins.clone();
            c.led = led.clone();
            c.night = night;
            c.hour = hour;
            c.clouds = clouds;
            c.x = x;
            c.besides = new HashSet<>(besides);
            return c;
        }

        boolean on(int h) {
            return h >= 0 && h < 6 && herd[h] != null && herd[h].on();
        }

        boolean lit(int l) {
            if (l >= 12) {
                return on(l - 12) && herd[l - 12].fire;
            }
            if (lamp[l] == null) {
                return false;
            }
            if (besides.contains(l)) {
                return true;
            }
            return l < 9 ? lamp[l].paid > 0 || lamp[l].dog > 0 : lamp[l].lit;
        }

        int living() {
            int n = 0;
            for (Herd h : herd) {
                n += h == null ? 0 : h.cattle;
            }
            return n;
        }

        int draw() {
            x = (int) ((25173L * x + 13849L) % 65536L);
            return x % 10;
        }
    }

    /** Reads, and at once reckons, a text; with no letters told it only looks for faults. */
    private final class Reader {
        final String text;
        final int[] told;
        int at = 0;
        int open = 0;

        Reader(String text, int[] told) {
            this.text = text;
            this.told = told;
        }

        int sign() {
            return at < text.length() ? text.charAt(at) : -1;
        }

        void need(char c) {
            if (sign() != c) {
                throw new Fault(1, at);
            }
            at++;
        }

        void opened() {
            if (open == 6) {
                throw new Fault(5, at);
            }
            open++;
            at++;
        }

        Object factor() {
            int c = sign();
            if (c == '[') {
                opened();
                Object v = sum();
                need(']');
                open--;
                return v;
            }
            if (c >= '0' && c <= '9') {
                int from = at;
                while (sign() >= '0' && sign() <= '9') {
                    if (at - from == 5) {
                        throw new Fault(2, at);
                    }
                    at++;
                }
                return Integer.valueOf(text.substring(from, at));
            }
            int which = c < 0 ? -1 : "uvhntexygcrlkdp".indexOf(c);
            if (which < 0) {
                throw new Fault(1, at);
            }
            at++;
            return told == null ? 1 : told[which];
        }

        // A value is an Integer, or null where something in it was divided by 0.
        Object reckon(Object a, int op, Object b) {
            if (a == null || b == null) {
                return null;
            }
            int p = (Integer) a;
            int q = (Integer) b;
            switch (op) {
                case '+': return p + q;
                case '-': return p - q;
                case '*': return p * q;
                case '/': return q == 0 ? null : (Object) (p / q);
                default: return q == 0 ? null : (Object) (p % q);
            }
        }

        Object term() {
            Object v = factor();
            while (sign() == '*' || sign() == '/' || sign() == '%') {
                int op = sign();
                at++;
                v = reckon(v, op, factor());
            }
            return v;
        }

        Object sum() {
            Object v = term();
            while (sign() == '+' || sign() == '-') {
                int op = sign();
                at++;
                v = reckon(v, op, term());
            }
            return v;
        }

        // Of a C: 1 holds, 0 does not, -1 is refused.
        int piece() {
            if (sign() == '!') {
                opened();
                int p = piece();
                open--;
                return p < 0 ? -1 : 1 - p;
            }
            if (sign() == '(') {
                opened();
                int p = choice();
                need(')');
                open--;
                return p;
            }
            Object a = sum();
            int op = sign();
            if (op != '<' && op != '>' && op != '=') {
                throw new Fault(1, at);
            }
            at++;
            Object b = sum();
            if (a == null || b == null) {
                return -1;
            }
            int p = (Integer) a;
            int q = (Integer) b;
            return (op == '<' ? p < q : op == '>' ? p > q : p == q) ? 1 : 0;
        }

        int part() {
            int all = piece();
            while (sign() == '&') {
                at++;
                int next = piece();
                all = all == 1 ? next : all;
            }
            return all;
        }

        int choice() {
            int any = part();
            while (sign() == '|') {
                at++;
                int next = part();
                any = any == 0 ? next : any;
            }
            return any;
        }

        /** The value of the first clause of a letter that holds; null: none does. All clauses are read. */
        Integer clauses(char letter) {
            Integer found = null;
            int many = 0;
            while (true) {
                int c = sign();
                if (c < 0 || "azswxfbq".indexOf(c) < 0) {
                    throw new Fault(1, at);
                }
                if (many == 16) {
                    throw new Fault(4, at);
                }
                many++;
                at++;
                Object e = sum();
                if (sign() != '(') {
                    throw new Fault(1, at);
                }
                opened();
                int holds = choice();
                need(')');
                open--;
                if (c == letter && holds == 1 && found == null) {
                    found = e == null ? 0 : (Integer) e;
                }
                if (sign() < 0) {
                    count = many;
                    return found;
                }
                need(';');
            }
        }

        int count;
    }

    private World w = new World();
    private World kept = null;
    private String law = "";
    private int clauses = 0;
    private List<Integer> tape = new ArrayList<>();

    private static boolean in(int v, int a, int b) {
        return a <= v && v <= b;
    }

    private int ask(char letter, int[] told) {
        if (law.isEmpty()) {
            return 0;
        }
        Integer v = new Reader(law, told).clauses(letter);
        if (v == null) {
            return 0;
        }
        int low = letter == 'f' ? -99 : 0;
        int high = letter == 'a' || letter == 'b' ? 999 : letter == 'z' || letter == 'q' ? 10 : 99;
        return v < low ? low : v > high ? high : v;
    }

    //                       u v h n t e x y g c r l k d p
    private int[] ofHerd(World a, int h, int draw) {
        Herd d = a.herd[h];
        return new int[] {a.hour, a.night, h, d.cattle, d.thirst, d.fear, d.square % 14, d.square / 14,
            a.sort[d.square], a.clouds >> a.hour & 1, draw, 0, 0, 0, 0};
    }

    private int squareOf(World a, int l) {
        return l < 12 ? a.lamp[l].square : a.herd[l - 12].square;
    }

    private int way(int p, int q) {
        return Math.abs(p % 14 - q % 14) + Math.abs(p / 14 - q / 14);
    }

    private int pull(World a, int h, int l) {
        int[] t = ofHerd(a, h, 0);
        t[11] = l;
        t[12] = l < 12 ? a.lamp[l].kind : 5;
        t[13] = way(a.herd[h].square, squareOf(a, l));
        return ask('a', t);
    }

    private int aim(World a, int h) {
        int reach = (a.clouds >> a.hour & 1) == 1 ? 3 : 6;
        int best = -1;
        int most = 0;
        for (int l = 0; l < 18; l++) {
            if (l == 12 + h || !a.lit(l) || way(a.herd[h].square, squareOf(a, l)) > reach) {
                continue;
            }
            int p = pull(a, h, l);
            if (p > most) {
                most = p;
                best = l;
            }
        }
        return best;
    }

    private boolean free(World a, int x, int y) {
        return in(x, 0, 13) && in(y, 0, 13) && a.sort[14 * y + x] != 3;
    }

    private int hourOf(World a, int draw) {
        int lost = 0;
        for (int h = 0; h < 6; h++) {
            if (!a.on(h)) {
                continue;
            }
            Herd d = a.herd[h];
            int aim = aim(a, h);
            int x = d.square % 14;
            int y = d.square / 14;
            if (d.fear >= 50 && draw < ask('z', ofHerd(a, h, draw))) {
                aim = -1;
                int dir = draw % 4;
                for (int k = 0; k < 2; k++) {
                    int nx = x + (dir == 1 ? 1 : dir == 3 ? -1 : 0);
                    int ny = y + (dir == 0 ? 1 : dir == 2 ? -1 : 0);
                    if (free(a, nx, ny)) {
                        x = nx;
                        y = ny;
                    }
                }
            } else if (aim >= 0) {
                int dx = squareOf(a, aim) % 14 - x;
                int dy = squareOf(a, aim) / 14 - y;
                int sx = dx > 0 ? 1 : dx < 0 ? -1 : 0;
                int sy = dy > 0 ? 1 : dy < 0 ? -1 : 0;
                if (dx != 0 || dy != 0) {
                    boolean xFirst = Math.abs(dx) >= Math.abs(dy);
                    if (xFirst && free(a, x + sx, y)) {
                        x += sx;
                    } else if (xFirst && dy != 0 && free(a, x, y + sy)) {
                        y += sy;
                    } else if (!xFirst && free(a, x, y + sy)) {
                        y += sy;
                    } else if (!xFirst && dx != 0 && free(a, x + sx, y)) {
                        x += sx;
                    }
                }
            } else if (y == 13) {
                d.through = true;
            } else if (free(a, x, y + 1)) {
                y++;
            }
            d.square = 14 * y + x;
            if (!d.on()) {
                continue;
            }
            int gone = 0;
            if (a.sort[d.square] == 1) {
                int s = Math.min(d.cattle, ask('s', ofHerd(a, h, draw)));
                d.cattle -= s;
                gone += s;
            }
            if (a.sort[d.square] == 2) {
                d.thirst = 0;
            } else {
                d.thirst = Math.min(99, d.thirst + ask('w', ofHerd(a, h, draw)));
            }
            if (d.thirst == 99) {
                int s = Math.min(d.cattle, ask('x', ofHerd(a, h, draw)));
                d.cattle -= s;
                gone += s;
            }
            d.fear = Math.max(0, Math.min(99, d.fear + ask('f', ofHerd(a, h, draw))));
            a.led[aim < 0 ? 18 : aim] += gone;
            lost += gone;
        }
        if (a.hour == 7) {
            a.hour = 0;
            a.night++;
            a.clouds = 0;
            a.besides.clear();
            for (int i = 0; i < 9; i++) {
                if (a.lamp[i] != null) {
                    a.lamp[i].paid = Math.max(0, a.lamp[i].paid - 1);
                    a.lamp[i].dog = Math.max(0, a.lamp[i].dog - 1);
                }
            }
        } else {
            a.hour++;
        }
        return lost;
    }

    private int hoursOf(World a, int n) {
        int lost = 0;
        for (int k = 0; k < n; k++) {
            lost += hourOf(a, a.draw());
        }
        return lost;
    }

    private int beer(int i) {
        int[] t = new int[15];
        t[0] = w.hour;
        t[1] = w.night;
        t[11] = i;
        t[12] = w.lamp[i].kind;
        t[14] = w.lamp[i].paid;
        return ask('b', t);
    }

    private boolean square(int x, int y) {
        return in(x, 0, 13) && in(y, 0, 13);
    }

    private boolean innThere(int i) {
        return in(i, 0, 8) && w.lamp[i] != null;
    }

    private boolean told(int h) {
        return in(h, 0, 5) && w.herd[h] != null;
    }

    public boolean ground(int x, int y, int sort) {
        if (!square(x, y) || !in(sort, 0, 3)) {
            return false;
        }
        if (sort == 3) {
            for (Lamp l : w.lamp) {
                if (l != null && l.square == 14 * y + x) {
                    return false;
                }
            }
            for (Herd h : w.herd) {
                if (h != null && h.on() && h.square == 14 * y + x) {
                    return false;
                }
            }
        }
        w.sort[14 * y + x] = sort;
        return true;
    }

    private boolean lamp(int l, int x, int y, int kind, boolean lit) {
        if (!square(x, y) || !in(kind, 0, 4) || w.sort[14 * y + x] == 3) {
            return false;
        }
        w.lamp[l] = new Lamp();
        w.lamp[l].square = 14 * y + x;
        w.lamp[l].kind = kind;
        w.lamp[l].lit = lit;
        return true;
    }

    public boolean inn(int i, int x, int y, int kind) {
        return in(i, 0, 8) && lamp(i, x, y, kind, false);
    }

    public boolean stray(int l, int x, int y, int kind, boolean lit) {
        return in(l, 9, 11) && lamp(l, x, y, kind, lit);
    }

    public boolean gone(int l) {
        if (!in(l, 0, 11) || w.lamp[l] == null) {
            return false;
        }
        w.lamp[l] = null;
        return true;
    }

    public boolean dog(int i, int nights) {
        if (!innThere(i) || !in(nights, 0, 99)) {
            return false;
        }
        w.lamp[i].dog = nights;
        return true;
    }

    public boolean herd(int h, int x, int y, int cattle, int thirst, int fear) {
        if (!in(h, 0, 5) || !square(x, y) || !in(cattle, 0, 999) || !in(thirst, 0, 99) || !in(fear, 0, 99)
                || w.sort[14 * y + x] == 3) {
            return false;
        }
        w.herd[h] = new Herd();
        w.herd[h].square = 14 * y + x;
        w.herd[h].cattle = cattle;
        w.herd[h].thirst = thirst;
        w.herd[h].fear = fear;
        return true;
    }

    public boolean fire(int h, boolean is) {
        if (!told(h) || w.herd[h].fire == is) {
            return false;
        }
        w.herd[h].fire = is;
        return true;
    }

    public boolean drover(int d, int coins) {
        if (!in(d, 0, 3) || !in(coins, 0, 9999)) {
            return false;
        }
        w.coins[d] = coins;
        return true;
    }

    public int feed(int a, int b, int c, int d, int e) {
        if (tape.size() > 240) {
            return -1;
        }
        for (int v : new int[] {a, b, c, d, e}) {
            for (int k = 3; k >= 0; k--) {
                tape.add(v >> 8 * k & 255);
            }
        }
        return tape.size();
    }

    public int law(int n) {
        if (!in(n, 1, 240) || tape.size() < n) {
            return -1;
        }
        StringBuilder b = new StringBuilder();
        for (int k = 0; k < n; k++) {
            b.append((char) tape.get(k).intValue());
        }
        tape.clear();
        Reader r = new Reader(b.toString(), null);
        try {
            r.clauses('-');
        } catch (Fault f) {
            return f.answer;
        }
        law = b.toString();
        clauses = r.count;
        return clauses;
    }

    public int price(int i) {
        return innThere(i) ? beer(i) : -1;
    }

    public int pay(int d, int i, int nights) {
        if (!in(d, 0, 3) || !innThere(i) || !in(nights, 1, 9)) {
            return -1;
        }
        int cost = beer(i) * nights;
        if (cost > w.coins[d]) {
            return -2;
        }
        if (w.lamp[i].paid + nights > 99) {
            return -3;
        }
        w.coins[d] -= cost;
        w.lamp[i].paid += nights;
        return cost;
    }

    public boolean clouds(int bits) {
        if (!in(bits, 0, 255)) {
            return false;
        }
        w.clouds = bits;
        return true;
    }

    public int lit(int l) {
        if (!in(l, 0, 17) || (l < 12 ? w.lamp[l] == null : !told(l - 12))) {
            return -1;
        }
        return w.lit(l) ? 1 : 0;
    }

    public int pull(int h, int l) {
        if (!w.on(h) || !in(l, 0, 17) || l == 12 + h || (l < 12 ? w.lamp[l] == null : !w.on(l - 12))) {
            return -1;
        }
        return pull(w, h, l);
    }

    public int target(int h) {
        if (!w.on(h)) {
            return -1;
        }
        int t = aim(w, h);
        return t < 0 ? -2 : t;
    }

    public int hours(int n) {
        return in(n, 1, 24) ? hoursOf(w, n) : -1;
    }

    public int hour(int draw) {
        return in(draw, 0, 9) ? hourOf(w, draw) : -1;
    }

    public int tried(int n, int what) {
        boolean ofHerd = in(what, 10, 49) && told(what % 10);
        if (!in(n, 1, 24) || !in(what, 0, 2) && !ofHerd) {
            return -1;
        }
        World a = w.copy();
        int lost = hoursOf(a, n);
        if (what == 0) {
            return lost;
        }
        if (what == 1) {
            return a.living();
        }
        if (what == 2) {
            int sum = 0;
            for (Herd h : a.herd) {
                sum += h != null && h.through ? h.cattle : 0;
            }
            return sum;
        }
        Herd h = a.herd[what % 10];
        switch (what / 10) {
            case 1: return h.cattle;
            case 2: return h.through ? 196 : h.square;
            case 3: return h.thirst;
            default: return h.fear;
        }
    }

    public int herdIs(int h, int what) {
        if (!told(h)) {
            return -1;
        }
        Herd d = w.herd[h];
        switch (what) {
            case 0: return d.through ? 196 : d.square;
            case 1: return d.cattle;
            case 2: return d.thirst;
            case 3: return d.fear;
            case 4: return d.fire ? 1 : 0;
            case 5: return d.on() ? 1 : 0;
            default: return -1;
        }
    }

    public int lampIs(int l, int what) {
        if (!in(l, 0, 11) || w.lamp[l] == null || !in(what, 0, 3)) {
            return -1;
        }
        Lamp p = w.lamp[l];
        return what == 0 ? p.square : what == 1 ? p.kind : what == 2 ? p.paid : p.dog;
    }

    public int led(int l) {
        return in(l, 0, 18) ? w.led[l] : -1;
    }

    private boolean mayLight(int i) {
        return innThere(i) && !w.lit(i);
    }

    private int livingBy(int set) {
        World a = w.copy();
        for (int i = 0; i < 9; i++) {
            if ((set >> i & 1) == 1) {
                a.besides.add(i);
            }
        }
        hoursOf(a, 8 - a.hour);
        return a.living();
    }

    /** Bits of inns, coins and living of the plan, where an inn's price may be told (above 0). */
    private int[] best(int coins, int[] price, int[] living) {
        int[] best = null;
        for (int set = 0; set < 512; set++) {
            int cost = 0;
            boolean fits = true;
            for (int i = 0; i < 9; i++) {
                if ((set >> i & 1) == 1) {
                    fits = fits && mayLight(i);
                    cost += fits ? price[i] : 0;
                }
            }
            if (!fits || cost > coins) {
                continue;
            }
            if (best == null || living[set] > best[2] || living[set] == best[2] && cost < best[1]) {
                best = new int[] {set, cost, living[set]};
            }
        }
        return best;
    }

    private int[] beers() {
        int[] b = new int[9];
        for (int i = 0; i < 9; i++) {
            b[i] = innThere(i) ? beer(i) : 0;
        }
        return b;
    }

    private int[] livings() {
        int[] n = new int[512];
        for (int set = 0; set < 512; set++) {
            boolean fits = true;
            for (int i = 0; i < 9; i++) {
                fits = fits && ((set >> i & 1) == 0 || mayLight(i));
            }
            n[set] = fits ? livingBy(set) : -1;
        }
        return n;
    }

    public int plan(int coins, int what) {
        if (!in(coins, 0, 9999) || !in(what, 0, 2)) {
            return -1;
        }
        return best(coins, beers(), livings())[what];
    }

    public int safe(int what) {
        if (!in(what, 0, 1)) {
            return -1;
        }
        // With no bound but the dearest sum the plan is the cheapest by which most live.
        int[] best = best(Integer.MAX_VALUE, beers(), livings());
        return best[2] < w.living() ? -2 : best[what];
    }

    public int place(int i, int what) {
        if (!innThere(i) || !in(what, 0, 1)) {
            return -1;
        }
        int[] best = {-1, -1};
        for (int s = 195; s >= 0; s--) {
            if (w.sort[s] != 3) {
                World a = w.copy();
                a.lamp[i].square = s;
                a.besides.add(i);
                hoursOf(a, 8 - a.hour);
                if (a.living() >= best[1]) {
                    best = new int[] {s, a.living()};
                }
            }
        }
        return best[what];
    }

    public int prices(int i, int j, int coins, int what) {
        if (!in(what, 0, 2) || !in(coins, 0, 9999) || i == j || !innThere(i) || !innThere(j) || w.lit(i) || w.lit(j)) {
            return -3;
        }
        int[] living = livings();
        int[][][] gain = new int[6][6][];
        for (int p = 1; p <= 5; p++) {
            for (int q = 1; q <= 5; q++) {
                int[] b = beers();
                b[i] = p;
                b[j] = q;
                int set = best(coins, b, living)[0];
                gain[p][q] = new int[] {(set >> i & 1) == 1 ? p : 0, (set >> j & 1) == 1 ? q : 0};
            }
        }
        List<int[]> rest = new ArrayList<>();
        for (int p = 1; p <= 5; p++) {
            for (int q = 1; q <= 5; q++) {
                boolean moves = false;
                for (int o = 1; o <= 5; o++) {
                    moves = moves || gain[o][q][0] > gain[p][q][0] || gain[p][o][1] > gain[p][q][1];
                }
                if (!moves) {
                    rest.add(new int[] {p, q});
                }
            }
        }
        return what == 0 ? rest.size() : rest.isEmpty() ? -2 : rest.get(0)[what - 1];
    }

    public int whoLit(int n, int what) {
        List<Integer> on = new ArrayList<>();
        for (int h = 0; h < 6; h++) {
            if (w.on(h)) {
                on.add(h);
            }
        }
        if (!in(n, 1, 8) || w.hour + n > 8 || !in(what, 0, 2) || on.isEmpty() || tape.size() < on.size()) {
            return -1;
        }
        List<Integer> seen = new ArrayList<>(tape.subList(0, on.size()));
        tape.clear();
        int may = 0;
        for (int i = 0; i < 9; i++) {
            if (mayLight(i) && Integer.bitCount(may) < 5) {
                may |= 1 << i;
            }
        }
        for (int l = 9; l < 12; l++) {
            may |= w.lamp[l] != null ? 1 << l : 0;
        }
        TreeSet<Integer> sets = new TreeSet<>();
        for (int set = 0; set < 4096; set++) {
            if ((set & ~may) != 0) {
                continue;
            }
            World a = w.copy();
            for (int l = 0; l < 12; l++) {
                if (l >= 9 && a.lamp[l] != null) {
                    a.lamp[l].lit = false;
                }
                if ((set >> l & 1) == 1) {
                    a.besides.add(l);
                }
            }
            hoursOf(a, n);
            boolean so = true;
            for (int k = 0; k < on.size(); k++) {
                Herd h = a.herd[on.get(k)];
                so = so && seen.get(k) == (h.on() ? h.square : 255);
            }
            if (so) {
                sets.add(set);
            }
        }
        if (what == 0) {
            return sets.size();
        }
        if (sets.isEmpty()) {
            return -2;
        }
        int all = 4095;
        for (int set : sets) {
            all &= set;
        }
        return what == 1 ? sets.first() : all;
    }

    public int where(int h, int n, int square, int what) {
        if (!w.on(h) || !in(n, 1, 8) || w.hour + n > 8 || !in(square, 0, 195) || !in(what, 0, 1)) {
            return -1;
        }
        List<Integer> from = new ArrayList<>();
        for (int s = 0; s < 196; s++) {
            if (w.sort[s] != 3) {
                World a = w.copy();
                a.herd[h].square = s;
                hoursOf(a, n);
                if (a.on(h) && a.herd[h].square == square) {
                    from.add(s);
                }
            }
        }
        return what == 0 ? from.size() : from.isEmpty() ? -2 : from.get(0);
    }

    public int odds(int n, int living, int what) {
        if (!in(n, 1, 3) || !in(living, 0, 9999) || !in(what, 0, 1)) {
            return -1;
        }
        int all = 1;
        for (int k = 0; k < n; k++) {
            all *= 10;
        }
        int good = 0;
        for (int code = 0; code < all; code++) {
            World a = w.copy();
            int rest = code;
            for (int k = 0; k < n; k++) {
                hourOf(a, rest % 10);
                rest /= 10;
            }
            good += a.living() >= living ? 1 : 0;
        }
        for (int t = all; t > 1; t--) {
            if (good % t == 0 && all % t == 0) {
                good /= t;
                all /= t;
            }
        }
        return what == 0 ? good : all;
    }

    public boolean seed(int x) {
        if (!in(x, 0, 65535)) {
            return false;
        }
        w.x = x;
        return true;
    }

    public int clouded() {
        boolean[] is = new boolean[8];
        for (int u = 0; u < 8; u++) {
            is[u] = (w.clouds >> u & 1) == 1;
            if (u >= w.hour) {
                int[] t = new int[15];
                t[0] = u;
                t[1] = w.night;
                is[u] = w.draw() < ask('q', t);
            }
        }
        w.clouds = 0;
        for (int u = 0; u < 8; u++) {
            w.clouds += is[u] ? 1 << u : 0;
        }
        return w.clouds;
    }

    public int keep() {
        kept = w.copy();
        return w.living();
    }

    public boolean undo() {
        if (kept == null) {
            return false;
        }
        w = kept.copy();
        return true;
    }

    public int check(int n) {
        if (!in(n, 0, 6) || tape.size() < 4 * n) {
            return -2;
        }
        List<Integer> t = tape;
        tape = new ArrayList<>();
        for (int h = 0; h < n; h++) {
            int v = 0;
            for (int k = 0; k < 4; k++) {
                v = v * 256 + t.get(4 * h + k);
            }
            if (v != (told(h) ? w.herd[h].cattle : 0)) {
                return h;
            }
        }
        return -1;
    }

    public int count(int what) {
        int bits = 0;
        switch (what) {
            case 0: return w.night;
            case 1: return w.hour;
            case 2: return w.clouds;
            case 3: return clauses;
            case 4: return tape.size();
            case 5: return w.x;
            case 6:
                for (int h = 0; h < 6; h++) {
                    bits |= told(h) ? 1 << h : 0;
                }
                return bits;
            case 7:
                for (int h = 0; h < 6; h++) {
                    bits |= w.on(h) ? 1 << h : 0;
                }
                return bits;
            case 8:
                for (int l = 0; l < 18; l++) {
                    bits |= w.lit(l) ? 1 << l : 0;
                }
                return bits;
            case 9: return w.living();
            default:
                return in(what, 10, 13) ? w.coins[what - 10] : in(what, 100, 295) ? w.sort[what - 100] : -1;
        }
    }

    @Override
    public String toString() {
        return law + " " + Arrays.toString(w.coins);
    }
}
