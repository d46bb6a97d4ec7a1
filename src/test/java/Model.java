import java.util.ArrayDeque;
import java.util.ArrayList;
import java.util.Arrays;
import java.util.Deque;
import java.util.HashMap;
import java.util.HashSet;
import java.util.List;
import java.util.Map;
import java.util.Set;
import java.util.function.ToIntFunction;
import java.util.regex.Matcher;
import java.util.regex.Pattern;

/** The document once more, in the plainest Java there is, with other ways of going about it: for tests alone. */
final class Model {
    static final int NONE = -1;

    record Two(int bulk, int alike, int left, int many, int year) { }

    record Token(String text, int place, boolean good) {
        boolean isWord() { return good && !text.isEmpty() && Character.isLowerCase(text.charAt(0)); }
        boolean isNumber() { return good && !text.isEmpty() && Character.isDigit(text.charAt(0)); }
    }

    static final class Fault extends Exception {
        private static final long serialVersionUID = 1;
        final int code;
        final int place;
        Fault(int code, int place) { this.code = code; this.place = place; }
    }

    static final class Trunk {
        int bulk;
        int room;
        int marks;
        int told;
        int pines;
        Trunk first;
        Trunk other;
    }

    /** A HOUSE at some moment; PARENTS are the TRUNKS themselves. */
    static final class Moment {
        Trunk[] at = new Trunk[8];
        int tales;
        int year;
        int seed;

        Moment copy() {
            Moment m = new Moment();
            Map<Trunk, Trunk> twin = new HashMap<>();
            for (int i = 0; i < 8; i++) {
                if (at[i] != null) {
                    Trunk t = new Trunk();
                    t.bulk = at[i].bulk;
                    t.room = at[i].room;
                    t.marks = at[i].marks;
                    t.told = at[i].told;
                    t.pines = at[i].pines;
                    twin.put(at[i], t);
                    m.at[i] = t;
                }
            }
            for (int i = 0; i < 8; i++) {
                if (at[i] != null) {
                    m.at[i].first = twin.get(at[i].first);
                    m.at[i].other = twin.get(at[i].other);
                }
            }
            m.tales = tales;
            m.year = year;
            m.seed = seed;
            return m;
        }

        int placeOf(Trunk t) {
            for (int i = 0; i < 8; i++) {
                if (t != null && at[i] == t) {
                    return i;
                }
            }
            return -1;
        }

        List<Integer> places() {
            List<Integer> all = new ArrayList<>();
            for (int i = 0; i < 8; i++) {
                if (at[i] != null) {
                    all.add(i);
                }
            }
            return all;
        }

        void drop(int i) {
            at[i] = null;
        }
    }

    static final class Told {
        List<String> roomNames = new ArrayList<>();
        List<Integer> holds = new ArrayList<>();
        List<String> names = new ArrayList<>();
        List<Trunk> trunks = new ArrayList<>();
        ToIntFunction<Two> brood = two -> two.alike() - two.many();
        int units = 0;
        int pines = 3;
        int tales = 0;
        int draw = 0;
    }

    record Held(int trunk, int many, boolean is, int from, int[] until) { }

    static final Set<String> OWN = Set.of("room", "holds", "trunk", "bulk", "at", "marks", "told", "brood", "pines",
        "tales", "draw", "or", "and", "not", "alike", "left", "many", "year");

    private StringBuilder tape = new StringBuilder();
    private Told told = new Told();
    private Moment now = new Moment();
    private Deque<Moment> past = new ArrayDeque<>();
    private Deque<Moment> undone = new ArrayDeque<>();
    private Moment[] boxes = new Moment[3];
    private List<Held> helds = new ArrayList<>();
    private int time = 0;
    private List<Integer> lying = new ArrayList<>();
    private int faultCode = 0;
    private int faultPlace = NONE;

    // ---- the text ----

    int feed(int a, int b, int c, int d, int e) {
        if (tape.length() + 20 > 1600) {
            return NONE;
        }
        for (int n : new int[] {a, b, c, d, e}) {
            tape.append((char) (n >>> 24)).append((char) (n >>> 16 & 255)).append((char) (n >>> 8 & 255))
                .append((char) (n & 255));
        }
        return tape.length();
    }

    int end(int n) {
        if (n < 0 || n > tape.length()) {
            return NONE;
        }
        tape.setLength(n);
        return n;
    }

    int house() {
        String text = tape.toString();
        tape.setLength(0);
        try {
            Told fresh = new Parser(text).parse();
            faultCode = 0;
            faultPlace = NONE;
            told = fresh;
            now = new Moment();
            for (int i = 0; i < told.trunks.size(); i++) {
                Trunk from = told.trunks.get(i);
                Trunk t = new Trunk();
                t.bulk = from.bulk;
                t.room = from.room;
                t.marks = from.marks;
                t.told = from.told;
                now.at[i] = t;
            }
            now.tales = told.tales;
            now.seed = told.draw;
            past.clear();
            undone.clear();
            boxes = new Moment[3];
            helds.clear();
            lying.clear();
            return told.trunks.size();
        } catch (Fault f) {
            faultCode = f.code;
            faultPlace = f.place;
            return NONE;
        }
    }

    int fault(int what) {
        return what == 0 ? faultCode : what == 1 ? faultPlace : NONE;
    }

    static final class Parser {
        private static final Pattern PIECE = Pattern.compile("[ \n]+|([a-z]+)|([0-9]+)(?=([a-z])?)|([;()<>=+\\-*/%])");
        private final List<Token> tokens = new ArrayList<>();
        private int i = 0;
        private final Told t = new Told();

        Parser(String text) {
            Matcher m = PIECE.matcher(text);
            int at = 0;
            while (at < text.length()) {
                if (!m.find(at) || m.start() != at) {
                    tokens.add(new Token("?", at, false));
                    break;
                }
                if (m.group(1) != null) {
                    tokens.add(new Token(m.group(1), at, m.group(1).length() <= 8));
                } else if (m.group(2) != null) {
                    tokens.add(new Token(m.group(2), at, m.group(2).length() <= 4 && m.group(3) == null));
                } else if (m.group(4) != null) {
                    tokens.add(new Token(m.group(4), at, true));
                }
                at = m.end();
            }
            tokens.add(new Token("", text.length(), true));
        }

        Token peek() { return tokens.get(i); }
        boolean sees(String s) { return peek().good() && peek().text().equals(s); }
        Fault wrong() { return new Fault(peek().good() ? 2 : 1, peek().place()); }
        Fault wrong(int code) { return new Fault(code, peek().place()); }

        void eat(String s) throws Fault {
            if (!sees(s)) {
                throw wrong();
            }
            i++;
        }

        boolean eats(String s) {
            if (sees(s)) {
                i++;
                return true;
            }
            return false;
        }

        int number(int least, int most) throws Fault {
            if (!peek().isNumber()) {
                throw wrong();
            }
            int n = Integer.parseInt(peek().text());
            if (n < least || n > most) {
                throw wrong(4);
            }
            i++;
            return n;
        }

        String name() throws Fault {
            if (!peek().isWord() || OWN.contains(peek().text())) {
                throw wrong();
            }
            return peek().text();
        }

        Told parse() throws Fault {
            Set<String> once = new HashSet<>();
            while (!sees("")) {
                String word = peek().text();
                if (!peek().good() || !Set.of("room", "trunk", "brood", "pines", "tales", "draw").contains(word)) {
                    throw wrong();
                }
                boolean full = word.equals("room") ? t.holds.size() == 4
                    : word.equals("trunk") ? t.trunks.size() == 6 : !once.add(word);
                if (full) {
                    throw wrong();
                }
                i++;
                switch (word) {
                    case "room" -> roomLine();
                    case "trunk" -> trunkLine();
                    case "brood" -> t.brood = e(0);
                    case "pines" -> t.pines = number(1, 9);
                    case "tales" -> t.tales = number(0, 99);
                    default -> t.draw = number(0, 999);
                }
                eat(";");
            }
            return t;
        }

        void roomLine() throws Fault {
            String name = name();
            if (t.roomNames.contains(name)) {
                throw wrong(3);
            }
            i++;
            eat("holds");
            int n = number(0, 99);
            t.roomNames.add(name);
            t.holds.add(n);
        }

        void trunkLine() throws Fault {
            Trunk trunk = new Trunk();
            String name = name();
            if (t.names.contains(name)) {
                throw wrong(3);
            }
            i++;
            eat("bulk");
            trunk.bulk = number(1, 20);
            eat("at");
            int room = t.roomNames.indexOf(name());
            if (room < 0) {
                throw wrong(5);
            }
            int used = t.trunks.stream().filter(x -> x.room == room).mapToInt(x -> x.bulk).sum();
            if (used + trunk.bulk > t.holds.get(room)) {
                throw wrong(3);
            }
            trunk.room = room;
            i++;
            eat("marks");
            trunk.marks = number(0, 63);
            if (eats("told")) {
                trunk.told = number(0, 9);
            }
            t.names.add(name);
            t.trunks.add(trunk);
        }

        static int truth(boolean b) { return b ? 1 : 0; }

        ToIntFunction<Two> e(int within) throws Fault {
            ToIntFunction<Two> a = both(within);
            while (eats("or")) {
                ToIntFunction<Two> l = a;
                ToIntFunction<Two> r = both(within);
                a = x -> truth(l.applyAsInt(x) != 0 | r.applyAsInt(x) != 0);
            }
            return a;
        }

        ToIntFunction<Two> both(int within) throws Fault {
            ToIntFunction<Two> a = one(within);
            while (eats("and")) {
                ToIntFunction<Two> l = a;
                ToIntFunction<Two> r = one(within);
                a = x -> truth(l.applyAsInt(x) != 0 & r.applyAsInt(x) != 0);
            }
            return a;
        }

        ToIntFunction<Two> one(int within) throws Fault {
            if (sees("not")) {
                if (within == 7) {
                    throw wrong();
                }
                i++;
                ToIntFunction<Two> a = one(within + 1);
                return x -> truth(a.applyAsInt(x) == 0);
            }
            ToIntFunction<Two> l = sum(within);
            if (eats("<")) {
                ToIntFunction<Two> r = sum(within);
                return x -> truth(l.applyAsInt(x) < r.applyAsInt(x));
            }
            if (eats(">")) {
                ToIntFunction<Two> r = sum(within);
                return x -> truth(l.applyAsInt(x) > r.applyAsInt(x));
            }
            if (eats("=")) {
                ToIntFunction<Two> r = sum(within);
                return x -> truth(l.applyAsInt(x) == r.applyAsInt(x));
            }
            return l;
        }

        ToIntFunction<Two> sum(int within) throws Fault {
            ToIntFunction<Two> a = term(within);
            while (sees("+") || sees("-")) {
                boolean plus = sees("+");
                i++;
                ToIntFunction<Two> l = a;
                ToIntFunction<Two> r = term(within);
                a = x -> plus ? l.applyAsInt(x) + r.applyAsInt(x) : l.applyAsInt(x) - r.applyAsInt(x);
            }
            return a;
        }

        ToIntFunction<Two> term(int within) throws Fault {
            ToIntFunction<Two> a = unit(within);
            while (sees("*") || sees("/") || sees("%")) {
                String sign = peek().text();
                i++;
                ToIntFunction<Two> l = a;
                ToIntFunction<Two> r = unit(within);
                a = x -> {
                    long p = l.applyAsInt(x);
                    long q = r.applyAsInt(x);
                    return (int) (sign.equals("*") ? p * q : q == 0 ? 0 : sign.equals("/") ? p / q : p % q);
                };
            }
            return a;
        }

        ToIntFunction<Two> unit(int within) throws Fault {
            String s = peek().good() ? peek().text() : "?";
            boolean plain = peek().isNumber() || Set.of("bulk", "alike", "left", "many", "year").contains(s);
            if (!plain && !s.equals("(") || t.units == 30 || s.equals("(") && within == 7) {
                throw wrong();
            }
            t.units++;
            i++;
            switch (s) {
                case "bulk": return Two::bulk;
                case "alike": return Two::alike;
                case "left": return Two::left;
                case "many": return Two::many;
                case "year": return Two::year;
                case "(":
                    ToIntFunction<Two> inner = e(within + 1);
                    eat(")");
                    return inner;
                default:
                    int n = Integer.parseInt(s);
                    return x -> n;
            }
        }
    }

    // ---- what is now ----

    private boolean isRoom(int r) { return r >= 0 && r < told.holds.size(); }
    private boolean is(int t) { return t >= 0 && t < 8 && now.at[t] != null; }

    private int left(Moment m, int r) {
        int left = told.holds.get(r);
        for (int i : m.places()) {
            if (m.at[i].room == r) {
                left -= m.at[i].bulk;
            }
        }
        return left;
    }

    private static int bits(List<Integer> list) {
        int bits = 0;
        for (int i : list) {
            bits += 1 << i;
        }
        return bits;
    }

    int room(int room, int what) {
        if (!isRoom(room) || what < 0 || what > 2) {
            return NONE;
        }
        if (what == 2) {
            return bits(now.places().stream().filter(i -> now.at[i].room == room).toList());
        }
        return what == 0 ? told.holds.get(room) : left(now, room);
    }

    int trunk(int trunk, int what) {
        if (!is(trunk) || what < 0 || what > 6) {
            return -2;
        }
        Trunk t = now.at[trunk];
        return new int[] {t.bulk, t.room, t.marks, t.told, t.pines, now.placeOf(t.first), now.placeOf(t.other)}[what];
    }

    private static int same(int a, int b) {
        int n = 0;
        for (int k = 0; k < 6; k++) {
            if ((a / (1 << k)) % 2 == (b / (1 << k)) % 2) {
                n++;
            }
        }
        return n;
    }

    private int comes(Moment m, int a, int b) {
        Trunk x = m.at[a];
        Trunk y = m.at[b];
        return told.brood.applyAsInt(new Two(x.bulk + y.bulk, same(x.marks, y.marks), left(m, x.room),
            m.places().size(), m.year));
    }

    int brood(int t, int o) {
        return t != o && is(t) && is(o) && now.at[t].room == now.at[o].room ? comes(now, t, o) : -1000000000;
    }

    private int[] pair(Moment m, int r) {
        List<Integer> c = new ArrayList<>(m.places().stream().filter(i -> m.at[i].room == r && m.at[i].pines == 0)
            .toList());
        c.sort((i, j) -> m.at[i].bulk != m.at[j].bulk ? m.at[j].bulk - m.at[i].bulk : i - j);
        return c.size() < 2 ? null : new int[] {c.get(0), c.get(1)};
    }

    int couple(int r) {
        int[] p = isRoom(r) ? pair(now, r) : null;
        return p == null ? NONE : p[0] * 8 + p[1];
    }

    private boolean bears(Moment m, int r) {
        int[] p = pair(m, r);
        return p != null && m.places().size() < 8 && comes(m, p[0], p[1]) > 0
            && Math.max(1, (m.at[p[0]].bulk + m.at[p[1]].bulk) / 4) <= left(m, r);
    }

    /** Who came, and who fell apart * 256. */
    private int pass(Moment m, int pines) {
        int came = 0;
        int fell = 0;
        for (int i : m.places()) {
            Trunk t = m.at[i];
            if (t.told >= 1) {
                t.told -= 1;
                t.pines = 0;
            } else if (++t.pines >= pines) {
                m.drop(i);
                fell |= 256 << i;
            }
        }
        for (int i : m.places()) {
            Trunk t = m.at[i];
            if (t.pines == 0 && t.bulk < 20 && left(m, t.room) > 0) {
                t.bulk++;
            }
        }
        for (int r = 0; r < told.holds.size(); r++) {
            if (bears(m, r)) {
                int[] p = pair(m, r);
                Trunk f = m.at[p[0]];
                Trunk o = m.at[p[1]];
                m.seed = (m.seed * 137 + 71) % 1000;
                Trunk y = new Trunk();
                y.bulk = Math.max(1, (f.bulk + o.bulk) / 4);
                y.room = r;
                y.first = f;
                y.other = o;
                int cut = m.seed;
                for (int k = 0; k < 6; k++) {
                    y.marks += (cut % 2 == 1 ? f.marks : o.marks) & 1 << k;
                    cut /= 2;
                }
                int free = 0;
                while (m.at[free] != null) {
                    free++;
                }
                m.at[free] = y;
                came |= 1 << free;
            }
        }
        m.year++;
        return came + fell;
    }

    // ---- acts ----

    private void act() {
        past.addLast(now.copy());
        if (past.size() > 40) {
            past.removeFirst();
        }
        undone.clear();
    }

    int year() {
        if (now.year >= 999) {
            return NONE;
        }
        act();
        return pass(now, told.pines) & 255;
    }

    int carry(int t, int r) {
        if (!is(t) || !isRoom(r) || now.at[t].room == r || left(now, r) < now.at[t].bulk) {
            return NONE;
        }
        act();
        int from = now.at[t].room;
        now.at[t].room = r;
        return from;
    }

    int tell(int t) {
        if (!is(t) || now.tales == 0 || now.at[t].told == 9) {
            return NONE;
        }
        act();
        now.tales--;
        return ++now.at[t].told;
    }

    int lose(int t) {
        if (!is(t)) {
            return NONE;
        }
        act();
        int bulk = now.at[t].bulk;
        now.drop(t);
        return bulk;
    }

    boolean undo() {
        if (past.isEmpty()) {
            return false;
        }
        undone.addLast(now);
        now = past.removeLast();
        return true;
    }

    boolean redo() {
        if (undone.isEmpty()) {
            return false;
        }
        past.addLast(now);
        now = undone.removeLast();
        return true;
    }

    // ---- ahead ----

    private static boolean ok(int n) { return n >= 0 && n <= 30; }

    private Moment ahead(int n, int pines) {
        Moment m = now.copy();
        for (int i = 0; i < n; i++) {
            pass(m, pines);
        }
        return m;
    }

    int will(int place, int n, int what) {
        if (!ok(n) || place < 0 || place > 7 || what < 0 || what > 1) {
            return NONE;
        }
        Trunk t = ahead(n, told.pines).at[place];
        return t == null ? NONE : what == 0 ? t.bulk : t.marks;
    }

    int alive(int n) { return ok(n) ? bits(ahead(n, told.pines).places()) : NONE; }

    int law(int p, int n) { return p >= 1 && p <= 9 && ok(n) ? ahead(n, p).places().size() : NONE; }

    int gone(int t) {
        if (!is(t)) {
            return NONE;
        }
        Moment m = now.copy();
        Trunk one = m.at[t];
        for (int i = 1; i <= 30; i++) {
            pass(m, told.pines);
            if (m.placeOf(one) < 0) {
                return i;
            }
        }
        return NONE;
    }

    /** By trying: tells one more at a time until it would not pine; whether one pines hangs on no other one. */
    int need(int n) {
        if (!ok(n)) {
            return NONE;
        }
        int sum = 0;
        for (int i : now.places()) {
            int more = 0;
            while (true) {
                int has = now.at[i].told + more;
                boolean pines = false;
                for (int y = 0; y < n; y++) {
                    if (has-- <= 0) {
                        pines = true;
                    }
                }
                if (!pines) {
                    break;
                }
                more++;
            }
            sum += more;
        }
        return sum;
    }

    int best(int t, int what) {
        if (!is(t) || what < 0 || what > 1) {
            return NONE;
        }
        int room = -1;
        int most = -1;
        for (int r = told.holds.size() - 1; r >= 0; r--) {
            if (now.at[t].room == r || left(now, r) >= now.at[t].bulk) {
                Moment m = now.copy();
                m.at[t].room = r;
                for (int i = 0; i < 5; i++) {
                    pass(m, told.pines);
                }
                if (m.places().size() >= most) {
                    most = m.places().size();
                    room = r;
                }
            }
        }
        return what == 0 ? room : most;
    }

    int fading(int n) {
        if (!ok(n)) {
            return NONE;
        }
        int bits = 0;
        Moment then = ahead(n, told.pines);
        for (int k = 0; k < 6; k++) {
            if (bearing(now, k) > 0 && bearing(then, k) == 0) {
                bits |= 1 << k;
            }
        }
        return bits;
    }

    private static int bearing(Moment m, int k) {
        return (int) m.places().stream().filter(i -> (m.at[i].marks & 1 << k) != 0).count();
    }

    int ripe() {
        int bits = 0;
        for (int r = 0; r < told.holds.size(); r++) {
            bits |= bears(now, r) ? 1 << r : 0;
        }
        return bits;
    }

    int pining() { return bits(now.places().stream().filter(i -> now.at[i].pines > 0).toList()); }

    // ---- rooms ----

    int pack() {
        lying.clear();
        List<Integer> who = now.places();
        int rooms = told.holds.size();
        int total = 1;
        for (int i = 0; i < who.size(); i++) {
            total *= rooms;
        }
        int fewest = Integer.MAX_VALUE;
        int[] found = null;
        for (int code = 0; code < total; code++) {
            int[] choice = new int[who.size()];
            int rest = code;
            for (int i = who.size() - 1; i >= 0; i--) {
                choice[i] = rest % rooms;
                rest /= rooms;
            }
            int[] load = new int[4];
            for (int i = 0; i < choice.length; i++) {
                load[choice[i]] += now.at[who.get(i)].bulk;
            }
            int used = 0;
            boolean fits = true;
            for (int r = 0; r < rooms; r++) {
                used += load[r] > 0 ? 1 : 0;
                fits &= load[r] <= told.holds.get(r);
            }
            if (fits && used < fewest) {
                fewest = used;
                found = choice;
            }
        }
        if (found == null) {
            return NONE;
        }
        for (int i = 0; i < 8; i++) {
            lying.add(who.contains(i) ? found[who.indexOf(i)] : -1);
        }
        return fewest;
    }

    int fill(int room, int what) {
        if (!isRoom(room) || what < 0 || what > 1) {
            return NONE;
        }
        List<int[]> all = new ArrayList<>();
        for (int set = 0; set < 256; set++) {
            int bulk = 0;
            boolean there = true;
            for (int i = 0; i < 8; i++) {
                if ((set >> i) % 2 == 1) {
                    there &= is(i);
                    bulk += is(i) ? now.at[i].bulk : 0;
                }
            }
            if (there && bulk <= told.holds.get(room)) {
                all.add(new int[] {-bulk, Integer.bitCount(set), set});
            }
        }
        all.sort(Arrays::compare);
        return what == 0 ? -all.get(0)[0] : all.get(0)[2];
    }

    int rivals(int t, int o) {
        lying.clear();
        if (t == o || !is(t) || !is(o)) {
            return NONE;
        }
        Moment m = now.copy();
        int a = m.at[t].bulk;
        int b = m.at[o].bulk;
        m.drop(t);
        m.drop(o);
        int rooms = told.holds.size();
        List<int[]> rests = new ArrayList<>();
        for (int x = 0; x < rooms; x++) {
            for (int y = 0; y < rooms; y++) {
                if (left(m, x) < a || left(m, y) < b) {
                    continue;
                }
                boolean rest = true;
                for (int z = 0; z < rooms; z++) {
                    if (left(m, z) >= a && gain(m, z, y, a, b) > gain(m, x, y, a, b)) {
                        rest = false;
                    }
                    if (left(m, z) >= b && gain(m, z, x, b, a) > gain(m, y, x, b, a)) {
                        rest = false;
                    }
                }
                if (rest) {
                    rests.add(new int[] {x, y});
                }
            }
        }
        if (!rests.isEmpty()) {
            lying.add(rests.get(0)[0]);
            lying.add(rests.get(0)[1]);
        }
        return rests.size();
    }

    private int gain(Moment m, int mine, int theirs, int own, int their) {
        if (mine != theirs) {
            return left(m, mine) - own;
        }
        return left(m, mine) < own + their ? -1 : left(m, mine) - own - their;
    }

    int roomiest() {
        int best = -1;
        for (int r = 0; r < told.holds.size(); r++) {
            if (best < 0 || left(now, r) > left(now, best)) {
                best = r;
            }
        }
        return best;
    }

    int lies(int i) { return i >= 0 && i < lying.size() ? lying.get(i) : -2; }

    // ---- marks and kin ----

    int sires(int t, int what) {
        if (!is(t) || what < 0 || what > 2) {
            return NONE;
        }
        List<int[]> all = new ArrayList<>();
        for (int a : now.places()) {
            for (int b : now.places()) {
                if (a < b && a != t && b != t) {
                    int n = 0;
                    for (int k = 0; k < 6; k++) {
                        int mine = now.at[t].marks >> k & 1;
                        if ((now.at[a].marks >> k & 1) != mine && (now.at[b].marks >> k & 1) != mine) {
                            n++;
                        }
                    }
                    all.add(new int[] {n, a, b});
                }
            }
        }
        all.sort(Arrays::compare);
        return all.isEmpty() ? NONE : all.get(0)[what == 2 ? 0 : what + 1];
    }

    int quartet(int a, int b, int c, int d, int what) {
        if (!is(a) || !is(b) || !is(c) || !is(d) || Set.copyOf(List.of(a, b, c, d)).size() < 4 || what < 0
            || what > 1) {
            return NONE;
        }
        int[] cost = new int[3];
        for (int k = 0; k < 6; k++) {
            StringBuilder row = new StringBuilder();
            for (int i : List.of(a, b, c, d)) {
                row.append(now.at[i].marks >> k & 1);
            }
            String[] parted = {"0011 1100", "0101 1010", "0110 1001"};
            for (int p = 0; p < 3; p++) {
                long ones = row.chars().filter(x -> x == '1').count();
                cost[p] += ones % 4 == 0 ? 0 : ones % 2 == 1 || parted[p].contains(row) ? 1 : 2;
            }
        }
        int best = 0;
        for (int p = 1; p < 3; p++) {
            best = cost[p] < cost[best] ? p : best;
        }
        return what == 0 ? best : cost[best];
    }

    /** By the shortest edges first. */
    int span() {
        List<int[]> edges = new ArrayList<>();
        for (int a : now.places()) {
            for (int b : now.places()) {
                if (a < b) {
                    edges.add(new int[] {6 - same(now.at[a].marks, now.at[b].marks), a, b});
                }
            }
        }
        edges.sort(Arrays::compare);
        int[] group = {0, 1, 2, 3, 4, 5, 6, 7};
        int sum = 0;
        for (int[] e : edges) {
            int from = group[e[1]];
            int to = group[e[2]];
            if (from != to) {
                sum += e[0];
                for (int i = 0; i < 8; i++) {
                    group[i] = group[i] == from ? to : group[i];
                }
            }
        }
        return sum;
    }

    private Map<Integer, Integer> up(int t) {
        Map<Integer, Integer> far = new HashMap<>();
        Deque<Integer> next = new ArrayDeque<>(List.of(t));
        far.put(t, 0);
        while (!next.isEmpty()) {
            int one = next.removeFirst();
            for (Trunk p : new Trunk[] {now.at[one].first, now.at[one].other}) {
                int place = now.placeOf(p);
                if (place >= 0 && !far.containsKey(place)) {
                    far.put(place, far.get(one) + 1);
                    next.addLast(place);
                }
            }
        }
        return far;
    }

    int line(int t) {
        if (!is(t)) {
            return NONE;
        }
        int bits = 0;
        for (int i : up(t).keySet()) {
            bits |= i == t ? 0 : 1 << i;
        }
        return bits;
    }

    int litter(int t) {
        return is(t) ? bits(now.places().stream()
            .filter(i -> now.at[i].first == now.at[t] || now.at[i].other == now.at[t]).toList()) : NONE;
    }

    int kin(int t, int o) {
        if (!is(t) || !is(o)) {
            return NONE;
        }
        int best = NONE;
        Map<Integer, Integer> there = up(o);
        for (Map.Entry<Integer, Integer> x : up(t).entrySet()) {
            if (there.containsKey(x.getKey())) {
                int steps = x.getValue() + there.get(x.getKey());
                best = best < 0 ? steps : Math.min(best, steps);
            }
        }
        return best;
    }

    int alike(int t, int o) { return is(t) && is(o) ? same(now.at[t].marks, now.at[o].marks) : NONE; }

    int like(int t) {
        if (!is(t)) {
            return NONE;
        }
        return now.places().stream().filter(o -> o != t).map(o -> new int[] {-alike(t, o), o}).min(Arrays::compare)
            .map(x -> x[1]).orElse(NONE);
    }

    int odd() {
        return now.places().stream().map(t -> new int[] {now.places().stream().filter(o -> !o.equals(t))
            .mapToInt(o -> alike(t, o)).sum(), t}).min(Arrays::compare).map(x -> x[1]).orElse(NONE);
    }

    int bearers(int k) { return k >= 0 && k < 6 ? bearing(now, k) : NONE; }

    // ---- what is held ----

    int held(int t, int many, boolean is) {
        if (t < 0 || t > told.trunks.size() - 2 || many < 0 || many > 6 || helds.size() == 30) {
            return NONE;
        }
        helds.add(new Held(t, many, is, time, new int[] {-1}));
        return helds.size() - 1;
    }

    boolean untell(int h) {
        if (h < 0 || h >= helds.size() || helds.get(h).until()[0] >= 0) {
            return false;
        }
        helds.get(h).until()[0] = time;
        return true;
    }

    int later(int by) {
        if (by < 0 || by > 1000 || time + by > 100000) {
            return NONE;
        }
        time += by;
        return time;
    }

    private List<Integer> fitting(int k) {
        List<Integer> all = new ArrayList<>();
        if (told.trunks.isEmpty()) {
            return all;
        }
        for (int m = 0; m < 64; m++) {
            boolean fits = true;
            for (Held h : helds) {
                boolean known = h.from() <= k && (h.until()[0] < 0 || h.until()[0] > k);
                boolean shared = same(m, told.trunks.get(h.trunk()).marks) >= h.many();
                fits &= !known || shared == h.is();
            }
            if (fits) {
                all.add(m);
            }
        }
        return all;
    }

    int fits(int k) { return fitting(k).size(); }

    int sure(int mark, int k) {
        if (mark < 0 || mark > 5) {
            return NONE;
        }
        Set<Integer> seen = new HashSet<>();
        for (int m : fitting(k)) {
            seen.add(m >> mark & 1);
        }
        return seen.isEmpty() ? NONE : seen.size() == 2 ? -2 : seen.iterator().next();
    }

    int ask(int what, int k) {
        List<Integer> all = fitting(k);
        if (what < 0 || what > 1 || all.isEmpty() || told.trunks.size() < 2) {
            return NONE;
        }
        List<int[]> found = new ArrayList<>();
        for (int t = 0; t < told.trunks.size() - 1; t++) {
            Map<Integer, Integer> parts = new HashMap<>();
            for (int m : all) {
                parts.merge(same(m, told.trunks.get(t).marks), 1, Integer::sum);
            }
            found.add(new int[] {parts.values().stream().max(Integer::compare).orElse(0), t});
        }
        found.sort(Arrays::compare);
        return found.get(0)[1 - what];
    }

    // ---- boxes ----

    int image(int box) {
        if (box < 0 || box > 2) {
            return NONE;
        }
        boxes[box] = now.copy();
        return now.year;
    }

    int back(int box) {
        if (box < 0 || box > 2 || boxes[box] == null) {
            return NONE;
        }
        now = boxes[box].copy();
        past.clear();
        undone.clear();
        return now.year;
    }

    int about(int what) {
        if (what < 0 || what > 14) {
            return NONE;
        }
        return new int[] {now.places().size(), told.holds.size(), bits(now.places()), now.tales, now.year, now.seed,
            past.size(), undone.size(), helds.size(), time, tape.length(), told.units, lying.size(), told.pines,
            told.trunks.size()}[what];
    }
}
