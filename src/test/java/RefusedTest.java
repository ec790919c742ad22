import java.util.function.Consumer;
import java.util.function.ToLongFunction;

/** Every call that is refused: its answer, its STATUS, and that nothing else has changed, what is kept neither. */
public final class RefusedTest {
    private static final int LEAST = Integer.MIN_VALUE;
    private static final int MOST = Integer.MAX_VALUE;
    private static final int NO_STATUS = -1;
    private static final String LAND = "person 1 100 0 0 20;person 1 0 60 0 10;child 0 1 2 10 5 50 0;adopted 1 2 0 0 0 80;"
            + "person 3 0 90 3 7;person 3 4 4 4 4;wed 0 1;will 0 2 2;will 4 0 5;field 1 150 50;field 2 10 5;front 3000;"
            + "law child*3+spouse*2+sibling;";
    private static String control;

    public static void main(String[] args) {
        control = all(prepared());
        Due.is("two alike", all(prepared()), control);
        noSuch();
        noSuchAhead();
        illegal();
        acts();
        seen();
        texts();
        questions();
        Due.end("RefusedTest");
    }

    /** An object of which all is in use: acts, an image, what is seen, rows, STATUS, a fault, a tape; 5 is dead. */
    private static SkyHeirs prepared() {
        SkyHeirs x = Due.of(LAND);
        x.see(0, 110);
        x.go(4, 5);
        x.image();
        x.die(5);
        x.days(2);
        x.wed(2, 4);
        x.see(1, 95);
        Due.tell(x, "wed");
        x.go(0, 10);
        x.see(0, -1);
        x.deaths(2, 1, 60);
        x.arrange();
        x.seatings();
        x.feed(0x20202020, 0x20202020, 0x20202020, 0x20202020, 0x20202020);
        return x;
    }

    // ---- what can be seen of an object ----

    private static String all(SkyHeirs x) {
        StringBuilder all = new StringBuilder(look(x));
        for (int left = x.count(7); left > 0; left--) {
            all.append("undo ").append(x.undo()).append(": ").append(glance(x));
        }
        all.append("undo ").append(x.undo());
        all.append("; restore ").append(x.restore()).append(": ").append(look(x));
        for (int what = 10; what <= 12; what++) {
            all.append(x.count(what)).append(' ');
        }
        all.append("undo ").append(x.undo()).append(": ").append(glance(x));
        all.append("forget ").append(x.forget()).append(": ").append(x.fits(0));
        return all.toString();
    }

    /** All but the tape, the place of the FAULT and the STATUS, which have tests of their own here. */
    private static String look(SkyHeirs x) {
        StringBuilder look = new StringBuilder();
        for (int what = 0; what <= 8; what++) {
            look.append(x.count(what)).append(' ');
        }
        look.append("; ");
        int people = x.count(0);
        int fields = x.count(3);
        for (int person = 0; person < people; person++) {
            int p = person;
            for (int what = 0; what < 7; what++) {
                look.append(x.person(person, what)).append(' ');
            }
            for (int part = 0; part < 4; part++) {
                look.append(x.sky(person, part)).append(' ');
            }
            look.append(Due.answer(() -> x.post(p))).append(' ').append(Due.answer(() -> x.seat(p))).append("; ");
        }
        for (int i = 0; i < 4; i++) {
            int at = i;
            look.append(Due.answer(() -> x.death(at))).append(' ').append(x.fits(i)).append(' ');
        }
        for (int field = 0; field < fields; field++) {
            for (int what = 0; what < 6; what++) {
                look.append(x.field(field, what)).append(' ');
            }
        }
        for (int place = 0; place < 10; place++) {
            look.append(x.weather(place, 6)).append(' ');
        }
        return look.append(x.failing()).append('\n').toString();
    }

    private static String glance(SkyHeirs x) {
        StringBuilder glance = new StringBuilder();
        int people = x.count(0);
        for (int person = 0; person < people; person++) {
            glance.append(x.person(person, 1)).append(' ').append(x.person(person, 6)).append(' ');
            glance.append(x.sky(person, 0)).append(' ').append(x.sky(person, 3)).append(' ');
        }
        for (int field = x.count(3) - 1; field >= 0; field--) {
            glance.append(x.field(field, 3)).append(' ').append(x.field(field, 4)).append(' ');
        }
        return glance.append(x.count(6)).append('\n').toString();
    }

    // ---- one call that is refused ----

    /** The call answers so, one STATUS more or none is counted, and all else is as with the one that wasn't called. */
    private static void refused(String call, ToLongFunction<SkyHeirs> run, String answer, int status) {
        SkyHeirs x = prepared();
        Due.is(call, Due.answer(() -> run.applyAsLong(x)), answer);
        Due.is(call + ": the tape", x.count(9), status == 0 ? 0 : 20);
        if (status != 0) {
            Due.is(call + ": the place of the fault", x.fault(), 3);
        }
        for (int i = 0; i < 3; i++) {
            Due.is(call + ": STATUS " + i, x.count(10 + i), i == status ? 2 : 1);
        }
        Due.is(call + ": all else", all(x), control);
    }

    private static void noSuch(String call, ToLongFunction<SkyHeirs> run) {
        refused(call, run, Due.NO_SUCH, NO_STATUS);
    }

    private static void illegal(String call, ToLongFunction<SkyHeirs> run) {
        refused(call, run, Due.ILLEGAL, NO_STATUS);
    }

    private static void act(String call, ToLongFunction<SkyHeirs> run) {
        refused(call, run, "-1", 1);
    }

    private static void wedding(int one, int other) {
        refused("wed(" + one + ", " + other + ")", x -> x.wed(one, other) ? 1 : 0, "0", 1);
    }

    // ---- which ones ----

    private static void noSuch() {
        for (int what : new int[] {LEAST, -1, 13, 14, MOST}) {
            noSuch("count(" + what + ")", x -> x.count(what));
        }
        for (int who : new int[] {LEAST, -1, 6, 7, 12, 32, MOST}) {
            noSuch("person(" + who + ", 0)", x -> x.person(who, 0));
            noSuch("sky(" + who + ", 0)", x -> x.sky(who, 0));
            noSuch("front(" + who + ", 0)", x -> x.front(who, 0));
            noSuch("front(0, " + who + ")", x -> x.front(0, who));
            noSuch("kin(" + who + ", 0)", x -> x.kin(who, 0));
            noSuch("kin(0, " + who + ")", x -> x.kin(0, who));
            noSuch("go(" + who + ", 0)", x -> x.go(who, 0));
            noSuch("wed(" + who + ", 0)", x -> x.wed(who, 0) ? 1 : 0);
            noSuch("wed(0, " + who + ")", x -> x.wed(0, who) ? 1 : 0);
            noSuch("die(" + who + ")", x -> x.die(who));
            noSuch("pawn(" + who + ", 0, 0, 1)", x -> x.pawn(who, 0, 0, 1));
            noSuch("pawn(0, " + who + ", 0, 1)", x -> x.pawn(0, who, 0, 1));
            noSuch("heir(" + who + ", 0, 0)", x -> x.heir(who, 0, 0));
            noSuch("heir(0, " + who + ", 0)", x -> x.heir(0, who, 0));
            noSuch("contested(" + who + ")", x -> x.contested(who));
            noSuch("deaths(" + who + ", 0, 1)", x -> x.deaths(who, 0, 1));
            noSuch("post(" + who + ")", x -> x.post(who));
            noSuch("suitors(" + who + ", 0, 0)", x -> x.suitors(who, 0, 0));
            noSuch("suitors(0, " + who + ", 0)", x -> x.suitors(0, who, 0));
        }
        for (int part : new int[] {LEAST, -1, 4, 5, MOST}) {
            noSuch("sky(0, " + part + ")", x -> x.sky(0, part));
            noSuch("pawn(0, 1, " + part + ", 1)", x -> x.pawn(0, 1, part, 1));
            noSuch("heir(0, 1, " + part + ")", x -> x.heir(0, 1, part));
            noSuch("deaths(0, " + part + ", 1)", x -> x.deaths(0, part, 1));
            noSuch("see(" + part + ", 0)", x -> x.see(part, 0));
            noSuch("fits(" + part + ")", x -> x.fits(part));
        }
        for (int what : new int[] {LEAST, -1, 7, 8, MOST}) {
            noSuch("person(0, " + what + ")", x -> x.person(0, what));
            noSuch("weather(0, " + what + ")", x -> x.weather(0, what));
            noSuch("seat(" + what + ")", x -> x.seat(what));
            noSuch("suitors(0, 1, " + what + ")", x -> x.suitors(0, 1, what));
            noSuch("century(0, 1, " + what + ")", x -> x.century(0, 1, what));
            noSuch("field(0, " + what + ")", x -> x.field(0, what));
            noSuch("field(" + what + ", 0)", x -> x.field(what, 0));
            noSuch("death(" + what + ")", x -> x.death(what));
        }
        for (int place : new int[] {LEAST, -1, 10, 11, MOST}) {
            noSuch("weather(" + place + ", 0)", x -> x.weather(place, 0));
        }
        noSuch("field(2, 0)", x -> x.field(2, 0));
        noSuch("field(0, 6)", x -> x.field(0, 6));
        noSuch("suitors(0, 1, 2)", x -> x.suitors(0, 1, 2));
        noSuch("century(0, 1, 3)", x -> x.century(0, 1, 3));
        noSuch("death(2)", x -> x.death(2));
        noSuch("seat(5)", x -> x.seat(5));
        noSuch("post of one who wasn't alive then", x -> x.post(5));
    }

    /** Where both are wrong, NoSuchElementException comes ahead of the other one and of what is refused. */
    private static void noSuchAhead() {
        noSuch("person(6, 7)", x -> x.person(6, 7));
        noSuch("front(6, 6)", x -> x.front(6, 6));
        noSuch("front(5, 6)", x -> x.front(5, 6));
        noSuch("front(-1, 5)", x -> x.front(-1, 5));
        noSuch("go(6, 10)", x -> x.go(6, 10));
        noSuch("go(-1, -1)", x -> x.go(-1, -1));
        noSuch("wed(6, 6)", x -> x.wed(6, 6) ? 1 : 0);
        noSuch("wed(5, 6)", x -> x.wed(5, 6) ? 1 : 0);
        noSuch("wed(-1, 5)", x -> x.wed(-1, 5) ? 1 : 0);
        noSuch("pawn(6, 6, 0, 0)", x -> x.pawn(6, 6, 0, 0));
        noSuch("pawn(5, 6, 0, 1)", x -> x.pawn(5, 6, 0, 1));
        noSuch("pawn(0, 0, 4, 1)", x -> x.pawn(0, 0, 4, 1));
        noSuch("pawn(0, 5, -1, 0)", x -> x.pawn(0, 5, -1, 0));
        noSuch("heir(6, 6, 0)", x -> x.heir(6, 6, 0));
        noSuch("heir(5, 6, 0)", x -> x.heir(5, 6, 0));
        noSuch("heir(0, 0, 4)", x -> x.heir(0, 0, 4));
        noSuch("heir(5, 0, -1)", x -> x.heir(5, 0, -1));
        noSuch("deaths(6, 0, 0)", x -> x.deaths(6, 0, 0));
        noSuch("deaths(5, 4, 1)", x -> x.deaths(5, 4, 1));
        noSuch("deaths(0, -1, 10000)", x -> x.deaths(0, -1, 10000));
        noSuch("see(4, -1)", x -> x.see(4, -1));
        noSuch("see(-1, 10000)", x -> x.see(-1, 10000));
        noSuch("suitors(0, 0, 2)", x -> x.suitors(0, 0, 2));
        noSuch("suitors(0, 5, -1)", x -> x.suitors(0, 5, -1));
        noSuch("suitors(6, 6, 0)", x -> x.suitors(6, 6, 0));
        noSuch("suitors(5, 6, 0)", x -> x.suitors(5, 6, 0));
        noSuch("century(0, 61, 3)", x -> x.century(0, 61, 3));
        noSuch("century(0, -1, -1)", x -> x.century(0, -1, -1));
    }

    private static void illegal() {
        for (int n : new int[] {LEAST, -1, 21, 700, 701, MOST}) {
            illegal("land(" + n + ")", x -> x.land(n));
        }
        for (int who = 0; who < 6; who++) {
            int one = who;
            illegal("front(" + who + ", same)", x -> x.front(one, one));
            illegal("heir(" + who + ", same, 0)", x -> x.heir(one, one, 0));
            illegal("suitors(" + who + ", same, 0)", x -> x.suitors(one, one, 0));
            illegal("front(5, " + who + ")", x -> x.front(5, one));
            illegal("front(" + who + ", 5)", x -> x.front(one, 5));
            illegal("heir(5, " + who + ", 3)", x -> x.heir(5, one, 3));
            illegal("suitors(5, " + who + ", 1)", x -> x.suitors(5, one, 1));
            illegal("suitors(" + who + ", 5, 1)", x -> x.suitors(one, 5, 1));
        }
        for (int much : new int[] {LEAST, -1, 0, 10000, MOST}) {
            illegal("deaths(0, 0, " + much + ")", x -> x.deaths(0, 0, much));
            illegal("deaths(5, 0, " + much + ")", x -> x.deaths(5, 0, much));
        }
        illegal("deaths of one who is dead", x -> x.deaths(5, 0, 1));
        for (int n : new int[] {LEAST, -1, 61, 62, MOST}) {
            for (int what = 0; what < 3; what++) {
                int which = what;
                illegal("century(5, " + n + ", " + what + ")", x -> x.century(5, n, which));
            }
        }
    }

    private static void acts() {
        for (int place : new int[] {LEAST, -1, 10, 11, MOST}) {
            act("go(0, " + place + ")", x -> x.go(0, place));
            act("go(5, " + place + ")", x -> x.go(5, place));
        }
        act("go of one who is dead", x -> x.go(5, 3));
        for (int who = 0; who < 6; who++) {
            wedding(who, who);
            wedding(5, who);
            wedding(who, 5);
        }
        for (int[] couple : new int[][] {{0, 1}, {1, 0}, {2, 4}, {4, 2}, {0, 2}, {2, 0}, {0, 3}, {3, 0}, {3, 4}, {4, 3}}) {
            wedding(couple[0], couple[1]);
        }
        act("die of one who is dead", x -> x.die(5));
        act("pawn to himself", x -> x.pawn(0, 0, 0, 1));
        act("pawn of one who is dead", x -> x.pawn(5, 0, 0, 1));
        act("pawn to one who is dead", x -> x.pawn(0, 5, 0, 1));
        for (int much : new int[] {LEAST, -1, 0, 101, 102, MOST}) {
            act("pawn(0, 1, 0, " + much + ")", x -> x.pawn(0, 1, 0, much));
        }
        act("pawn of what he hasn't", x -> x.pawn(0, 1, 1, 1));
        act("pawn of more than he has", x -> x.pawn(1, 0, 1, 61));
        act("pawn of more cold than he has", x -> x.pawn(3, 1, 3, 81));
        for (int many : new int[] {LEAST, -1, 0, 101, 102, MOST}) {
            act("days(" + many + ")", x -> x.days(many));
        }
    }

    private static void seen() {
        for (int much : new int[] {LEAST, -1, 10000, 10001, MOST}) {
            for (int part = 0; part < 4; part++) {
                int which = part;
                refused("see(" + part + ", " + much + ")", x -> x.see(which, much), "-1", 2);
            }
        }
    }

    /** The six faults: the tape is empty then, STATUS 0 and the place are new, all else stays. */
    private static void texts() {
        String[] texts = {"person 3 1 1 1 1#", "person 3 1 1 1 #1000;", "person 1 1 1 1 1;wed #1 0;",
            "person 1 1 1 1 1;will 0 #0 1;", "law 1;#law 2;", "person 1 1 1 1 1;".repeat(3) + "wed 0 1;wed 2 #1;"};
        for (int i = 0; i < texts.length; i++) {
            String text = texts[i].replace("#", "");
            int place = 20 + texts[i].indexOf('#');
            int fault = i + 1;
            refused("a text with fault " + fault, x -> {
                Due.feed(x, text);
                int answer = x.land(20 + text.length());
                Due.is("fault()", x.fault(), place);
                return answer;
            }, Integer.toString(fault), 0);
        }
    }

    /** Questions change nothing, however many are asked. */
    private static void questions() {
        ask("kin, front", x -> {
            for (int one = 0; one < 5; one++) {
                x.kin(one, (one + 2) % 5);
                x.front(one, (one + 1) % 5);
            }
        });
        ask("heir, contested", x -> {
            for (int one = 0; one < 5; one++) {
                x.heir(one, (one + 1) % 5, one % 4);
                x.contested(one);
            }
        });
        ask("count, person, sky, weather, field, fault", x -> {
            for (int i = 0; i < 5; i++) {
                x.count(i + 8);
                x.person(i, i + 2);
                x.sky(i, i % 4);
                x.weather(i, i + 2);
                x.field(i % 2, i);
                x.fault();
            }
        });
        ask("suitors, century, fits, failing", x -> {
            for (int i = 0; i < 3; i++) {
                x.suitors(i, i + 1, i % 2);
                x.century(-77 * i, 60, i);
                x.fits(i);
                x.failing();
            }
        });
        ask("deaths without an end", x -> Due.is("deaths(0, 0, 9999)", x.deaths(0, 0, 9999), -1));
        ask("death, post, seat", x -> {
            for (int i = 0; i < 2; i++) {
                x.death(i);
                x.post(i);
                x.seat(i);
            }
        });
    }

    private static void ask(String calls, Consumer<SkyHeirs> run) {
        SkyHeirs x = prepared();
        run.accept(x);
        Due.is(calls + ": the tape", x.count(9), 20);
        Due.is(calls + ": the place of the fault", x.fault(), 3);
        for (int i = 0; i < 3; i++) {
            Due.is(calls + ": STATUS " + i, x.count(10 + i), 1);
        }
        Due.is(calls + ": all else", all(x), control);
    }
}
