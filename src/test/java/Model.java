import java.util.ArrayDeque;
import java.util.ArrayList;
import java.util.Arrays;
import java.util.Deque;
import java.util.List;
import java.util.NoSuchElementException;
import java.util.TreeMap;
import java.util.regex.Matcher;
import java.util.regex.Pattern;

/** The document once more, told in another way and without regard to speed: RandomTest holds SkyHeirs against it. */
final class Model {
    interface Law {
        int of(int[] facts);
    }

    static final class Fault extends RuntimeException {
        private static final long serialVersionUID = 1;
        final int code;
        final int place;

        Fault(int code, int place) {
            this.code = code;
            this.place = place;
        }
    }

    record Will(int owner, int heir, int share) { }

    record Plot(int place, int sun, int rain) { }

    record Glimpse(int part, int much) { }

    /** Somebody, as he is at one time. */
    static final class Soul {
        int[] sky;
        int place;
        boolean alive = true;
        int spouse = -1;

        Soul copy() {
            Soul s = new Soul();
            s.sky = sky.clone();
            s.place = place;
            s.alive = alive;
            s.spouse = spouse;
            return s;
        }
    }

    static final class Times {
        final List<Soul> souls = new ArrayList<>();
        final List<int[]> got = new ArrayList<>();
        final TreeMap<Integer, Integer> noons = new TreeMap<>();

        Times copy() {
            Times t = new Times();
            souls.forEach(s -> t.souls.add(s.copy()));
            got.forEach(g -> t.got.add(g.clone()));
            t.noons.putAll(noons);
            return t;
        }

        List<Integer> living() {
            List<Integer> all = new ArrayList<>();
            for (int i = 0; i < souls.size(); i++) {
                if (souls.get(i).alive) {
                    all.add(i);
                }
            }
            return all;
        }
    }

    static final class Text {
        final List<List<Integer>> parents = new ArrayList<>();
        final List<Boolean> adopted = new ArrayList<>();
        final List<Will> wills = new ArrayList<>();
        final List<Plot> plots = new ArrayList<>();
        Integer front = null;
        Law law = null;
        final Times first = new Times();
    }

    private byte[] tape = new byte[0];
    private int faultPlace = -1;
    private Text text = new Text();
    private Times now = new Times();
    private Deque<Times> acts = new ArrayDeque<>();
    private List<Glimpse> seen = new ArrayList<>();
    private int[] status = new int[3];
    private List<Integer> deathRow = null;
    private int[] postRow = null;
    private List<Integer> seatRow = null;
    private Times imageTimes = null;
    private Deque<Times> imageActs = null;
    private List<Glimpse> imageSeen = null;
    private int[] imageStatus = null;

    // ---- text ----

    int feed(int a, int b, int c, int d, int e) {
        if (tape.length > 680) {
            return -1;
        }
        byte[] more = Arrays.copyOf(tape, tape.length + 20);
        java.nio.ByteBuffer.wrap(more, tape.length, 20).putInt(a).putInt(b).putInt(c).putInt(d).putInt(e);
        tape = more;
        return tape.length;
    }

    int land(int n) {
        if (n < 0 || n > tape.length) {
            throw new IllegalArgumentException();
        }
        String told = new String(tape, 0, n, java.nio.charset.StandardCharsets.ISO_8859_1);
        tape = new byte[0];
        try {
            text = new Parser(told).land();
        } catch (Fault f) {
            faultPlace = f.place;
            status[0]++;
            return f.code;
        }
        faultPlace = -1;
        now = text.first.copy();
        acts = new ArrayDeque<>();
        seen = new ArrayList<>();
        deathRow = null;
        postRow = null;
        seatRow = null;
        imageTimes = null;
        return 0;
    }

    int fault() {
        return faultPlace;
    }

    static final class Parser {
        private final List<String> tokens = new ArrayList<>();
        private final List<Integer> places = new ArrayList<>();
        private int i = 0;
        private final Text text = new Text();

        Parser(String told) {
            Matcher m = Pattern.compile("[a-z]+|[0-9]+|[ \\n]+|.", Pattern.DOTALL).matcher(told);
            while (m.find()) {
                if (!m.group().isBlank() || !m.group().matches("[ \\n]+")) {
                    tokens.add(m.group());
                    places.add(m.start());
                }
            }
            tokens.add("");
            places.add(told.length());
        }

        private Fault fault(int code) {
            return new Fault(code, places.get(i));
        }

        private String look() {
            return tokens.get(i);
        }

        private boolean isWord() {
            return look().matches("[a-z]+");
        }

        private boolean isNumber() {
            return look().matches("[0-9]+");
        }

        private void sign(String wanted) {
            if (!look().equals(wanted)) {
                throw fault(1);
            }
            i++;
        }

        private int number(int least, int most) {
            if (!isNumber()) {
                throw fault(1);
            }
            if (look().length() > 4 || Integer.parseInt(look()) < least || Integer.parseInt(look()) > most) {
                throw fault(2);
            }
            return Integer.parseInt(tokens.get(i++));
        }

        private int person(int notThis) {
            int p = number(0, 9999);
            i--;
            if (p >= text.parents.size()) {
                throw fault(3);
            }
            if (p == notThis) {
                throw fault(4);
            }
            i++;
            return p;
        }

        Text land() {
            while (!look().isEmpty()) {
                line();
                sign(";");
            }
            return text;
        }

        private void line() {
            String word = look();
            switch (word) {
                case "person", "child", "adopted" -> {
                    if (text.parents.size() == 12) {
                        throw fault(2);
                    }
                    i++;
                    List<Integer> parents = new ArrayList<>();
                    if (!word.equals("person")) {
                        parents.add(person(-1));
                    }
                    if (word.equals("child")) {
                        parents.add(person(parents.get(0)));
                    }
                    Soul soul = new Soul();
                    soul.place = number(0, 9);
                    soul.sky = new int[] {number(0, 999), number(0, 999), number(0, 999), number(0, 999)};
                    text.parents.add(parents);
                    text.adopted.add(word.equals("adopted"));
                    text.first.souls.add(soul);
                }
                case "wed" -> {
                    i++;
                    int one = unwed(-1);
                    int other = unwed(one);
                    text.first.souls.get(one).spouse = other;
                    text.first.souls.get(other).spouse = one;
                }
                case "will" -> will();
                case "field" -> plot();
                case "front" -> {
                    if (text.front != null) {
                        throw fault(5);
                    }
                    i++;
                    text.front = number(1, 3996);
                }
                case "law" -> {
                    if (text.law != null) {
                        throw fault(5);
                    }
                    i++;
                    text.law = expr(0);
                }
                default -> throw fault(1);
            }
        }

        private int unwed(int notThis) {
            int p = person(notThis);
            if (text.first.souls.get(p).spouse >= 0) {
                i--;
                throw fault(6);
            }
            return p;
        }

        private void will() {
            if (text.wills.size() == 12) {
                throw fault(2);
            }
            i++;
            int owner = person(-1);
            int heir = person(owner);
            if (text.wills.stream().anyMatch(w -> w.owner() == owner && w.heir() == heir)) {
                i--;
                throw fault(4);
            }
            text.wills.add(new Will(owner, heir, number(1, 99)));
        }

        private void plot() {
            if (text.plots.size() == 6) {
                throw fault(2);
            }
            i++;
            int place = number(0, 9);
            if (text.plots.stream().anyMatch(p -> p.place() == place)) {
                i--;
                throw fault(4);
            }
            text.plots.add(new Plot(place, number(0, 9999), number(0, 9999)));
            text.first.got.add(new int[2]);
        }

        private Law expr(int within) {
            if (within > 5 && (isWord() || isNumber() || look().equals("("))) {
                throw fault(2);
            }
            Law law = and(within);
            while (look().equals("or")) {
                i++;
                Law a = law;
                Law b = and(within);
                law = f -> a.of(f) != 0 | b.of(f) != 0 ? 1 : 0;
            }
            return law;
        }

        private Law and(int within) {
            Law law = not(within, 1);
            while (look().equals("and")) {
                i++;
                Law a = law;
                Law b = not(within, 1);
                law = f -> a.of(f) != 0 & b.of(f) != 0 ? 1 : 0;
            }
            return law;
        }

        private Law not(int within, int which) {
            if (look().equals("not")) {
                if (which > 6) {
                    throw fault(2);
                }
                i++;
                Law a = not(within, which + 1);
                return f -> a.of(f) == 0 ? 1 : 0;
            }
            Law a = sum(within);
            if (look().equals("<")) {
                i++;
                Law b = sum(within);
                return f -> a.of(f) < b.of(f) ? 1 : 0;
            }
            if (look().equals("=")) {
                i++;
                Law b = sum(within);
                return f -> a.of(f) == b.of(f) ? 1 : 0;
            }
            return a;
        }

        private Law sum(int within) {
            Law law = product(within);
            while (look().equals("+") || look().equals("-")) {
                boolean plus = tokens.get(i++).equals("+");
                Law a = law;
                Law b = product(within);
                law = f -> plus ? a.of(f) + b.of(f) : a.of(f) - b.of(f);
            }
            return law;
        }

        private Law product(int within) {
            Law law = part(within);
            while (look().equals("*") || look().equals("/")) {
                boolean times = tokens.get(i++).equals("*");
                Law a = law;
                Law b = part(within);
                law = f -> times ? a.of(f) * b.of(f) : b.of(f) == 0 ? 0 : a.of(f) / b.of(f);
            }
            return law;
        }

        private Law part(int within) {
            if (look().equals("(")) {
                i++;
                Law law = expr(within + 1);
                sign(")");
                return law;
            }
            if (isWord()) {
                int which = List.of("child", "adopted", "spouse", "parent", "sibling", "number", "here").indexOf(look());
                if (which < 0) {
                    throw fault(3);
                }
                i++;
                return f -> f[which];
            }
            int n = number(0, 9999);
            return f -> n;
        }
    }

    // ---- what words mean ----

    private Soul soul(int p) {
        if (p < 0 || p >= now.souls.size()) {
            throw new NoSuchElementException();
        }
        return now.souls.get(p);
    }

    private static void part(int part) {
        if (part < 0 || part > 3) {
            throw new NoSuchElementException();
        }
    }

    private int front() {
        return text.front == null ? 300 : text.front;
    }

    private int given(Times t, int dead, int other) {
        boolean isChild = text.parents.get(other).contains(dead);
        if (text.law == null) {
            return isChild ? 1 : 0;
        }
        List<Integer> common = new ArrayList<>(text.parents.get(dead));
        common.retainAll(text.parents.get(other));
        boolean adopted = text.adopted.get(other);
        int[] facts = {isChild && !adopted ? 1 : 0, isChild && adopted ? 1 : 0,
            t.souls.get(dead).spouse == other ? 1 : 0, text.parents.get(dead).contains(other) ? 1 : 0,
            common.isEmpty() ? 0 : 1, other, t.souls.get(dead).place == t.souls.get(other).place ? 1 : 0};
        return Math.min(999, Math.max(0, text.law.of(facts)));
    }

    private TreeMap<Integer, Integer> shares(Times t, int dead, boolean wills) {
        TreeMap<Integer, Integer> shares = new TreeMap<>();
        for (Will w : text.wills) {
            if (wills && w.owner() == dead && t.souls.get(w.heir()).alive) {
                shares.put(w.heir(), w.share());
            }
        }
        if (shares.isEmpty()) {
            for (int other : t.living()) {
                int given = other == dead ? 0 : given(t, dead, other);
                if (given > 0) {
                    shares.put(other, given);
                }
            }
        }
        return shares;
    }

    /** How much of a part everybody gets. */
    private static int[] split(TreeMap<Integer, Integer> shares, int much) {
        int[] gets = new int[12];
        long all = shares.values().stream().mapToLong(v -> v).sum();
        int rest = much;
        for (int heir : shares.keySet()) {
            gets[heir] = (int) ((long) much * shares.get(heir) / all);
            rest -= gets[heir];
        }
        if (!shares.isEmpty()) {
            gets[shares.firstKey()] += rest;
        }
        return gets;
    }

    private int death(Times t, int dead) {
        TreeMap<Integer, Integer> shares = shares(t, dead, true);
        Soul gone = t.souls.get(dead);
        for (int part = 0; part < 4; part++) {
            int[] gets = split(shares, gone.sky[part]);
            for (int heir : shares.keySet()) {
                t.souls.get(heir).sky[part] += gets[heir];
            }
        }
        if (shares.isEmpty()) {
            t.noons.merge(gone.place, 1, Integer::sum);
        }
        gone.sky = new int[4];
        gone.alive = false;
        gone.place = -1;
        return shares.size();
    }

    private static int[] weatherOf(Times t, int place) {
        int[] falls = new int[4];
        falls[0] = 10 * t.noons.getOrDefault(place, 0);
        for (int p : t.living()) {
            if (t.souls.get(p).place == place) {
                for (int part = 0; part < 4; part++) {
                    falls[part] += t.souls.get(p).sky[part];
                }
            }
        }
        return falls;
    }

    private static int top(int[] parts) {
        int top = 4;
        for (int part = 3; part >= 0; part--) {
            if (parts[part] > 0 && (top == 4 || parts[part] >= parts[top])) {
                top = part;
            }
        }
        return top;
    }

    private void day(Times t) {
        for (int f = 0; f < text.plots.size(); f++) {
            int[] falls = weatherOf(t, text.plots.get(f).place());
            t.got.get(f)[0] = Math.min(9999, t.got.get(f)[0] + falls[0]);
            t.got.get(f)[1] = Math.min(9999, t.got.get(f)[1] + falls[1]);
        }
    }

    private boolean ripe(Times t, int f) {
        return t.got.get(f)[0] >= text.plots.get(f).sun() && t.got.get(f)[1] >= text.plots.get(f).rain();
    }

    private int ripes(Times t) {
        int many = 0;
        for (int f = 0; f < text.plots.size(); f++) {
            many += ripe(t, f) ? 1 : 0;
        }
        return many;
    }

    private static int noons(Times t) {
        return t.noons.values().stream().mapToInt(v -> v).sum();
    }

    private int apart(int one, int other) {
        int apart = 0;
        for (int part = 0; part < 4; part++) {
            apart += Math.abs(now.souls.get(one).sky[part] - now.souls.get(other).sky[part]);
        }
        return apart;
    }

    private static Deque<Times> copies(Deque<Times> acts) {
        Deque<Times> all = new ArrayDeque<>();
        acts.forEach(t -> all.addLast(t.copy()));
        return all;
    }

    // ---- promises 5 to 11 ----

    int count(int what) {
        return switch (what) {
            case 0 -> now.souls.size();
            case 1 -> now.living().size();
            case 2 -> text.wills.size();
            case 3 -> text.plots.size();
            case 4 -> ripes(now);
            case 5 -> front();
            case 6 -> noons(now);
            case 7 -> acts.size();
            case 8 -> seen.size();
            case 9 -> tape.length;
            case 10, 11, 12 -> status[what - 10];
            default -> throw new NoSuchElementException();
        };
    }

    int person(int person, int what) {
        Soul s = soul(person);
        List<Integer> parents = text.parents.get(person);
        return switch (what) {
            case 0 -> s.alive ? 1 : 0;
            case 1 -> s.alive ? s.place : -1;
            case 2 -> parents.size();
            case 3 -> parents.size() > 0 ? parents.get(0) : -1;
            case 4 -> parents.size() > 1 ? parents.get(1) : -1;
            case 5 -> text.adopted.get(person) ? 1 : 0;
            case 6 -> s.spouse;
            default -> throw new NoSuchElementException();
        };
    }

    int sky(int person, int part) {
        Soul s = soul(person);
        part(part);
        return s.sky[part];
    }

    int weather(int place, int what) {
        if (place < 0 || place > 9 || what < 0 || what > 6) {
            throw new NoSuchElementException();
        }
        int[] falls = weatherOf(now, place);
        List<Soul> there = now.living().stream().map(now.souls::get).filter(s -> s.place == place).toList();
        if (what < 4) {
            return falls[what];
        }
        if (what == 4) {
            boolean rain = there.stream().anyMatch(s -> top(s.sky) == 1);
            boolean cold = there.stream().anyMatch(s -> top(s.sky) == 3);
            return rain && cold ? 5 : top(falls);
        }
        return what == 5 ? there.size() : now.noons.getOrDefault(place, 0);
    }

    int field(int field, int what) {
        if (field < 0 || field >= text.plots.size() || what < 0 || what > 5) {
            throw new NoSuchElementException();
        }
        Plot p = text.plots.get(field);
        int[] got = now.got.get(field);
        return new int[] {p.place(), p.sun(), p.rain(), got[0], got[1], ripe(now, field) ? 1 : 0}[what];
    }

    int front(int one, int other) {
        Soul a = soul(one);
        Soul b = soul(other);
        if (a == b || !a.alive || !b.alive) {
            throw new IllegalArgumentException();
        }
        int apart = apart(one, other);
        return apart < front() ? apart : -1 - apart;
    }

    int kin(int one, int other) {
        soul(one);
        soul(other);
        int n = now.souls.size();
        int[][] far = new int[n][n];
        for (int a = 0; a < n; a++) {
            for (int b = 0; b < n; b++) {
                boolean near = text.parents.get(a).contains(b) || text.parents.get(b).contains(a)
                        || now.souls.get(a).spouse == b;
                far[a][b] = a == b ? 0 : near ? 1 : 1000;
            }
        }
        for (int by = 0; by < n; by++) {
            for (int a = 0; a < n; a++) {
                for (int b = 0; b < n; b++) {
                    far[a][b] = Math.min(far[a][b], far[a][by] + far[by][b]);
                }
            }
        }
        return far[one][other] < 1000 ? far[one][other] : -1;
    }

    // ---- promises 12 to 17 ----

    private void act() {
        acts.addLast(now.copy());
        if (acts.size() > 40) {
            acts.removeFirst();
        }
    }

    private int refused() {
        status[1]++;
        return -1;
    }

    int go(int person, int place) {
        if (!soul(person).alive || place < 0 || place > 9) {
            return refused();
        }
        act();
        int before = now.souls.get(person).place;
        now.souls.get(person).place = place;
        return before;
    }

    private boolean takenBy(Soul s) {
        return s.spouse >= 0 && now.souls.get(s.spouse).alive;
    }

    int wed(int one, int other) {
        Soul a = soul(one);
        Soul b = soul(other);
        if (a == b || !a.alive || !b.alive || takenBy(a) || takenBy(b)) {
            refused();
            return 0;
        }
        act();
        for (Soul s : now.souls) {
            if (s.spouse == one || s.spouse == other) {
                s.spouse = -1;
            }
        }
        a.spouse = other;
        b.spouse = one;
        return 1;
    }

    int die(int person) {
        if (!soul(person).alive) {
            return refused();
        }
        act();
        return death(now, person);
    }

    int pawn(int person, int other, int part, int much) {
        Soul a = soul(person);
        Soul b = soul(other);
        part(part);
        if (a == b || !a.alive || !b.alive || much < 1 || a.sky[part] < much) {
            return refused();
        }
        act();
        a.sky[part] -= much;
        b.sky[part] += much;
        return b.sky[part];
    }

    int days(int many) {
        if (many < 1 || many > 100) {
            return refused();
        }
        act();
        for (int i = 0; i < many; i++) {
            day(now);
        }
        return ripes(now);
    }

    int undo() {
        if (acts.isEmpty()) {
            return -1;
        }
        now = acts.removeLast();
        return acts.size();
    }

    // ---- promises 18 to 22 ----

    int heir(int person, int heir, int part) {
        Soul a = soul(person);
        Soul b = soul(heir);
        part(part);
        if (a == b || !a.alive) {
            throw new IllegalArgumentException();
        }
        Times t = now.copy();
        death(t, person);
        return b.alive ? t.souls.get(heir).sky[part] - b.sky[part] : 0;
    }

    int failing() {
        int bits = 0;
        for (int p : now.living()) {
            List<Will> wills = text.wills.stream().filter(w -> w.owner() == p).toList();
            if (!wills.isEmpty() && wills.stream().noneMatch(w -> now.souls.get(w.heir()).alive)) {
                bits += 1 << p;
            }
        }
        return bits;
    }

    int contested(int person) {
        if (!soul(person).alive) {
            return 0;
        }
        int[] more = new int[12];
        for (int part = 0; part < 4; part++) {
            int much = now.souls.get(person).sky[part];
            int[] byWill = split(shares(now, person, true), much);
            int[] byLaw = split(shares(now, person, false), much);
            for (int p = 0; p < 12; p++) {
                more[p] += byLaw[p] - byWill[p];
            }
        }
        int bits = 0;
        for (int p = 0; p < 12; p++) {
            bits += more[p] > 0 ? 1 << p : 0;
        }
        return bits;
    }

    int deaths(int person, int part, int much) {
        Soul s = soul(person);
        part(part);
        if (much < 1 || much > 9999 || !s.alive) {
            throw new IllegalArgumentException();
        }
        List<List<Integer>> rows = new ArrayList<>();
        List<Times> ends = new ArrayList<>();
        rows.add(List.of());
        ends.add(now);
        for (int many = 0; many <= 3; many++) {
            List<List<Integer>> longer = new ArrayList<>();
            List<Times> later = new ArrayList<>();
            for (int i = 0; i < rows.size(); i++) {
                if (ends.get(i).souls.get(person).sky[part] >= much) {
                    deathRow = rows.get(i);
                    return many;
                }
                for (int dead : ends.get(i).living()) {
                    if (dead != person && many < 3) {
                        Times t = ends.get(i).copy();
                        death(t, dead);
                        List<Integer> row = new ArrayList<>(rows.get(i));
                        row.add(dead);
                        longer.add(row);
                        later.add(t);
                    }
                }
            }
            rows = longer;
            ends = later;
        }
        return -1;
    }

    int death(int i) {
        if (deathRow == null || i < 0 || i >= deathRow.size()) {
            throw new NoSuchElementException();
        }
        return deathRow.get(i);
    }

    // ---- promises 23 to 26 ----

    int arrange() {
        List<Integer> living = now.living();
        int f = text.plots.size();
        if (living.size() > 6 || f > 4) {
            return -2;
        }
        int best = -1;
        long rows = 1;
        for (int i = 0; i < living.size(); i++) {
            rows *= f + 1;
        }
        for (long row = 0; row < rows; row++) {
            Times t = now.copy();
            int[] posts = new int[12];
            Arrays.fill(posts, -2);
            long left = row;
            for (int i = living.size() - 1; i >= 0; i--) {
                int post = (int) (left % (f + 1)) - 1;
                left /= f + 1;
                posts[living.get(i)] = post;
                t.souls.get(living.get(i)).place = post < 0 ? -1 : text.plots.get(post).place();
            }
            for (int[] got : t.got) {
                Arrays.fill(got, 0);
            }
            day(t);
            if (ripes(t) > best) {
                best = ripes(t);
                postRow = posts;
            }
        }
        return best;
    }

    int post(int person) {
        soul(person);
        if (postRow == null || postRow[person] == -2) {
            throw new NoSuchElementException();
        }
        return postRow[person];
    }

    int seatings() {
        List<Integer> living = now.living();
        if (living.size() < 3 || living.size() > 7) {
            return -2;
        }
        List<List<Integer>> orders = new ArrayList<>();
        permute(new ArrayList<>(living.subList(0, 1)), living, orders);
        int many = 0;
        for (List<Integer> order : orders) {
            boolean fine = true;
            for (int i = 0; i < order.size(); i++) {
                fine &= apart(order.get(i), order.get((i + 1) % order.size())) < front();
            }
            if (fine) {
                if (many == 0) {
                    seatRow = order;
                }
                many++;
            }
        }
        return many;
    }

    private static void permute(List<Integer> row, List<Integer> all, List<List<Integer>> orders) {
        if (row.size() == all.size()) {
            orders.add(new ArrayList<>(row));
        }
        for (int p : all) {
            if (!row.contains(p)) {
                row.add(p);
                permute(row, all, orders);
                row.remove(row.size() - 1);
            }
        }
    }

    int seat(int i) {
        if (seatRow == null || i < 0 || i >= seatRow.size()) {
            throw new NoSuchElementException();
        }
        return seatRow.get(i);
    }

    // ---- promises 27 to 29 ----

    int see(int part, int much) {
        part(part);
        if (seen.size() == 4 || much < 0 || much > 9999) {
            status[2]++;
            return -1;
        }
        seen.add(new Glimpse(part, much));
        return seen.size();
    }

    int forget() {
        if (seen.isEmpty()) {
            return -1;
        }
        seen.remove(seen.size() - 1);
        return seen.size();
    }

    int fits(int what) {
        if (what < 0 || what > 3) {
            throw new NoSuchElementException();
        }
        List<Integer> sets = new ArrayList<>();
        int living = 0;
        for (int p : now.living()) {
            living |= 1 << p;
        }
        for (int set = 0; set < 4096; set++) {
            if ((set & ~living) == 0) {
                int[] all = new int[4];
                for (int p = 0; p < 12; p++) {
                    for (int part = 0; part < 4 && (set >> p & 1) == 1; part++) {
                        all[part] += now.souls.get(p).sky[part];
                    }
                }
                if (seen.stream().allMatch(g -> all[g.part()] == g.much())) {
                    sets.add(set);
                }
            }
        }
        if (what < 2) {
            return what == 0 ? sets.size() : sets.isEmpty() ? -1 : sets.get(0);
        }
        if (what == 2) {
            return sets.isEmpty() ? 0 : sets.stream().reduce((a, b) -> a & b).get();
        }
        int ask = -1;
        long even = Long.MAX_VALUE;
        for (int p : now.living()) {
            long in = sets.stream().filter(s -> (s >> p & 1) == 1).count();
            long uneven = Math.abs(in - (sets.size() - in));
            if (uneven < even) {
                even = uneven;
                ask = p;
            }
        }
        return ask;
    }

    // ---- promises 30 to 33 ----

    private int gain(int me, int other, int mine, int theirs) {
        int place = text.plots.get(mine).place();
        int sun = 10 * now.noons.getOrDefault(place, 0);
        for (int p : now.living()) {
            if (p != me && p != other && now.souls.get(p).place == place) {
                sun += now.souls.get(p).sky[0];
            }
        }
        return (mine == theirs ? sun / 2 : sun) + (ripe(now, mine) ? 0 : 5);
    }

    int suitors(int one, int other, int what) {
        Soul a = soul(one);
        Soul b = soul(other);
        if (what != 0 && what != 1) {
            throw new NoSuchElementException();
        }
        if (a == b || !a.alive || !b.alive) {
            throw new IllegalArgumentException();
        }
        List<Integer> rests = new ArrayList<>();
        int f = text.plots.size();
        for (int i = 0; i < f * f; i++) {
            int mine = i / f;
            int theirs = i % f;
            boolean rest = true;
            for (int k = 0; k < f; k++) {
                rest &= gain(one, other, k, theirs) <= gain(one, other, mine, theirs);
                rest &= gain(other, one, k, mine) <= gain(other, one, theirs, mine);
            }
            if (rest) {
                rests.add(10 * mine + theirs);
            }
        }
        return what == 0 ? rests.size() : rests.isEmpty() ? -1 : rests.get(0);
    }

    int century(int seed, int n, int what) {
        if (what < 0 || what > 2) {
            throw new NoSuchElementException();
        }
        if (n < 0 || n > 60) {
            throw new IllegalArgumentException();
        }
        Times t = now.copy();
        int[] state = {seed};
        for (int year = 0; year < n; year++) {
            if (!t.souls.isEmpty()) {
                int who = draw(state, t.souls.size());
                int place = draw(state, 10);
                if (t.souls.get(who).alive) {
                    t.souls.get(who).place = place;
                    if (draw(state, 4) == 0) {
                        death(t, who);
                    }
                }
            }
            day(t);
        }
        return what == 0 ? t.living().size() : what == 1 ? ripes(t) : noons(t);
    }

    private static int draw(int[] state, int n) {
        state[0] = (int) (state[0] * 1103515245L + 12345L);
        long bits = (state[0] & 0xffffffffL) / 65536 % 32768;
        return (int) (bits % n);
    }

    int image() {
        imageTimes = now.copy();
        imageActs = copies(acts);
        imageSeen = new ArrayList<>(seen);
        imageStatus = status.clone();
        return 0;
    }

    int restore() {
        if (imageTimes == null) {
            return 0;
        }
        now = imageTimes.copy();
        acts = copies(imageActs);
        seen = new ArrayList<>(imageSeen);
        status = imageStatus.clone();
        return 1;
    }
}
