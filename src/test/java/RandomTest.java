import java.util.Random;
import java.util.function.LongSupplier;

/** Promises 1 to 33: runs of calls drawn by fixed seeds, each answer held against the Model's. */
public final class RandomTest {
    private static final int RUNS = 6000;
    /** What an object answers behind its 512th call is free. */
    private static final int MOST_CALLS = 512;
    private final Random random;
    private final SkyHeirs x = new SkyHeirs();
    private final Model model = new Model();
    private final StringBuilder calls = new StringBuilder();
    private int made = 0;
    private boolean same = true;

    private RandomTest(long seed) {
        random = new Random(seed);
    }

    public static void main(String[] args) {
        int runs = args.length > 0 ? Integer.parseInt(args[0]) : RUNS;
        int first = args.length > 1 ? Integer.parseInt(args[1]) : 0;
        int wrong = 0;
        for (int run = first; run < first + runs && wrong < 3; run++) {
            RandomTest test = new RandomTest(run);
            test.run();
            if (!test.same) {
                wrong++;
                System.out.println("run " + run + ":\n" + test.calls);
            }
        }
        System.exit(wrong > 0 ? 1 : 0);
    }

    private void due(String call, LongSupplier program, LongSupplier modelled) {
        if (made >= MOST_CALLS) {
            return;
        }
        made++;
        String got = Due.answer(program);
        String want = Due.answer(modelled);
        calls.append("  ").append(call).append(" = ").append(got).append('\n');
        if (!got.equals(want)) {
            same = false;
            calls.append("    due is ").append(want).append('\n');
        }
    }

    private void run() {
        for (int i = 0; made < MOST_CALLS && same; i++) {
            if (i == 0 || random.nextInt(80) == 0) {
                newText();
            } else {
                step(random.nextInt(32));
            }
        }
    }

    // ---- arguments ----

    private int below(int n) {
        return random.nextInt(n);
    }

    /** Mostly somebody, now and then nobody. */
    private int someone() {
        int people = model.count(0);
        if (people == 0 || below(25) == 0) {
            return new int[] {-1, people, 12, Integer.MAX_VALUE, Integer.MIN_VALUE}[below(5)];
        }
        return below(people);
    }

    /** Mostly 0 to n - 1. */
    private int what(int n) {
        return below(25) == 0 ? new int[] {-1, n, n + 1, Integer.MIN_VALUE}[below(4)] : below(n);
    }

    private int amount(int person, int part) {
        boolean known = person >= 0 && person < model.count(0) && part >= 0 && part < 4;
        int has = known ? model.sky(person, part) : 5;
        return new int[] {has, has + 1, 1, 0, -1, 1 + below(Math.max(1, has)), below(40)}[below(7)];
    }

    // ---- calls ----

    private void step(int which) {
        int a = someone();
        int b = someone();
        int part = what(4);
        switch (which) {
            case 0, 1 -> {
                int place = what(below(2) == 0 ? 3 : 10);
                due("go(" + a + ", " + place + ")", () -> x.go(a, place), () -> model.go(a, place));
            }
            case 2, 3 -> due("wed(" + a + ", " + b + ")", () -> x.wed(a, b) ? 1 : 0, () -> model.wed(a, b));
            case 4 -> due("die(" + a + ")", () -> x.die(a), () -> model.die(a));
            case 5 -> {
                int much = amount(a, part);
                due("pawn(" + a + ", " + b + ", " + part + ", " + much + ")", () -> x.pawn(a, b, part, much),
                        () -> model.pawn(a, b, part, much));
            }
            case 6 -> {
                int days = new int[] {1, 2, 3, 100, 101, 0, -5}[below(7)];
                due("days(" + days + ")", () -> x.days(days), () -> model.days(days));
            }
            case 7, 8 -> due("undo()", x::undo, model::undo);
            case 9 -> due("failing()", x::failing, model::failing);
            case 10 -> due("contested(" + a + ")", () -> x.contested(a), () -> model.contested(a));
            case 11 -> fewestDeaths(a, part);
            case 12 -> posts();
            case 13 -> seats();
            case 14, 15 -> sight(part);
            case 16 -> due("forget()", x::forget, model::forget);
            case 17, 18 -> {
                for (int i = 0; i < 4; i++) {
                    int what = i;
                    due("fits(" + what + ")", () -> x.fits(what), () -> model.fits(what));
                }
            }
            case 19, 20 -> {
                int what = what(2);
                due("suitors(" + a + ", " + b + ", " + what + ")", () -> x.suitors(a, b, what),
                        () -> model.suitors(a, b, what));
            }
            case 21 -> {
                int seed = random.nextInt();
                int n = what(61);
                int what = what(3);
                due("century(" + seed + ", " + n + ", " + what + ")", () -> x.century(seed, n, what),
                        () -> model.century(seed, n, what));
            }
            case 22 -> due("image()", this::image, model::image);
            case 23 -> due("restore()", () -> x.restore() ? 1 : 0, model::restore);
            case 24 -> wrongText();
            case 25 -> {
                if (below(3) == 0) {
                    everything();
                } else {
                    rows();
                }
            }
            case 30, 31 -> heirs(a, part);
            default -> questions(which, a, b, part);
        }
    }

    private long image() {
        x.image();
        return 0;
    }

    private void questions(int which, int a, int b, int part) {
        int ten = what(10);
        switch (which) {
            case 26 -> due("heir(" + a + ", " + b + ", " + part + ")", () -> x.heir(a, b, part),
                    () -> model.heir(a, b, part));
            case 27 -> due("kin(" + a + ", " + b + ")", () -> x.kin(a, b), () -> model.kin(a, b));
            case 28 -> due("front(" + a + ", " + b + ")", () -> x.front(a, b), () -> model.front(a, b));
            default -> {
                int what = what(7);
                due("weather(" + ten + ", " + what + ")", () -> x.weather(ten, what), () -> model.weather(ten, what));
                due("person(" + a + ", " + what + ")", () -> x.person(a, what), () -> model.person(a, what));
                due("field(" + ten + ", " + what + ")", () -> x.field(ten, what), () -> model.field(ten, what));
                due("sky(" + a + ", " + part + ")", () -> x.sky(a, part), () -> model.sky(a, part));
                int counted = what(13);
                due("count(" + counted + ")", () -> x.count(counted), () -> model.count(counted));
            }
        }
    }

    /** All that is kept; what is worked out from it is asked now and then. */
    private void everything() {
        for (int i = 0; i < 13; i++) {
            int what = i;
            due("count(" + what + ")", () -> x.count(what), () -> model.count(what));
        }
        for (int p = 0; p < model.count(0); p++) {
            int person = p;
            for (int i = 0; i < 7; i++) {
                int what = i;
                due("person(" + person + ", " + what + ")", () -> x.person(person, what), () -> model.person(person, what));
                if (i < 4) {
                    due("sky(" + person + ", " + what + ")", () -> x.sky(person, what), () -> model.sky(person, what));
                }
            }
        }
        for (int f = 0; f < model.count(3); f++) {
            int field = f;
            for (int i = 0; i < 6; i++) {
                int what = i;
                due("field(" + field + ", " + what + ")", () -> x.field(field, what), () -> model.field(field, what));
            }
        }
        for (int p = 0; p < 10; p++) {
            int place = p;
            int what = below(7);
            due("weather(" + place + ", " + what + ")", () -> x.weather(place, what), () -> model.weather(place, what));
            due("weather(" + place + ", 6)", () -> x.weather(place, 6), () -> model.weather(place, 6));
        }
        due("fault()", x::fault, model::fault);
    }

    private void rows() {
        for (int i = 0; i < 8; i++) {
            int at = i;
            due("post(" + at + ")", () -> x.post(at), () -> model.post(at));
            due("seat(" + at + ")", () -> x.seat(at), () -> model.seat(at));
            if (i < 4) {
                due("death(" + at + ")", () -> x.death(at), () -> model.death(at));
            }
        }
    }

    private void heirs(int dead, int part) {
        for (int p = 0; p < model.count(0); p++) {
            int heir = p;
            due("heir(" + dead + ", " + heir + ", " + part + ")", () -> x.heir(dead, heir, part),
                    () -> model.heir(dead, heir, part));
        }
    }

    private void fewestDeaths(int person, int part) {
        int much = below(4) == 0 ? new int[] {0, 10000, 9999, -3}[below(4)] : amount(person, part) + below(60);
        due("deaths(" + person + ", " + part + ", " + much + ")", () -> x.deaths(person, part, much),
                () -> model.deaths(person, part, much));
        for (int i = -1; i < 4; i++) {
            int at = i;
            due("death(" + at + ")", () -> x.death(at), () -> model.death(at));
        }
    }

    private void posts() {
        if (below(4) != 0 || model.count(1) > 5) {
            return;
        }
        due("arrange()", x::arrange, model::arrange);
        for (int p = -1; p <= model.count(0); p++) {
            int person = p;
            due("post(" + person + ")", () -> x.post(person), () -> model.post(person));
        }
    }

    private void seats() {
        due("seatings()", x::seatings, model::seatings);
        for (int i = -1; i < 8; i++) {
            int at = i;
            due("seat(" + at + ")", () -> x.seat(at), () -> model.seat(at));
        }
    }

    /** Mostly what some of those alive have together. */
    private void sight(int part) {
        int much = below(10) == 0 ? new int[] {-1, 0, 9999, 10000}[below(4)] : 0;
        for (int p = 0; p < model.count(0) && part >= 0 && part < 4 && much >= 0; p++) {
            much += below(2) * model.sky(p, part);
        }
        int seen = much;
        due("see(" + part + ", " + seen + ")", () -> x.see(part, seen), () -> model.see(part, seen));
    }

    // ---- texts ----

    private void feedBoth(String text) {
        for (int from = 0; from < text.length(); from += 20) {
            int[] five = new int[5];
            for (int i = 0; i < 20; i++) {
                five[i / 4] = five[i / 4] << 8 | (from + i < text.length() ? text.charAt(from + i) & 255 : 32);
            }
            due("feed(\"" + text.substring(from, Math.min(text.length(), from + 20)) + "\")",
                    () -> x.feed(five[0], five[1], five[2], five[3], five[4]),
                    () -> model.feed(five[0], five[1], five[2], five[3], five[4]));
        }
    }

    private void landBoth(int n) {
        due("land(" + n + ")", () -> x.land(n), () -> model.land(n));
        due("fault()", x::fault, model::fault);
    }

    private void newText() {
        landBoth(model.count(9));
        String text = new RandomText(random).text();
        feedBoth(text);
        landBoth(text.length());
        everything();
        for (int deaths = below(4); deaths > 0; deaths--) {
            step(4);
        }
    }

    private void wrongText() {
        landBoth(model.count(9));
        RandomText texts = new RandomText(random);
        String text = texts.text();
        for (int i = 1 + below(2); i > 0; i--) {
            text = texts.spoilt(text);
        }
        text = text.length() > 700 ? text.substring(0, 700) : text;
        feedBoth(text);
        int n = below(12) == 0 ? new int[] {-1, 701, model.count(9) + 1}[below(3)] : Math.min(model.count(9), text.length());
        landBoth(n);
    }
}
