import java.util.Map;
import java.util.TreeMap;
import java.util.function.Consumer;
import java.util.function.ToLongFunction;

/** Each promise by itself, 1 to 33: what its call answers, what it changes, and that all else is as it was. */
public final class PromisesTest {
    private static final String LAND = "person 1 100 0 0 20;person 1 0 60 0 10;child 0 1 2 10 5 50 0;adopted 1 2 0 0 0 80;"
            + "person 3 0 90 3 7;person 3 4 4 4 4;wed 0 1;will 0 2 2;will 4 0 5;field 1 450 50;field 2 10 5;front 3000;"
            + "law child*3+spouse*2+sibling;";
    private static final String TAPE = "person 4 9 9 9 9;   ";
    private static final int MOST = Integer.MAX_VALUE;
    private static final int LEAST = Integer.MIN_VALUE;

    /** Some calls on an object that has been used. */
    private interface Calls extends Consumer<SkyHeirs> { }

    public static void main(String[] args) {
        Due.is("two alike", differing(all(PromisesTest::past), all(PromisesTest::past)), "");
        aText();
        whatIs();
        acts();
        whoWouldGetWhat();
        rows();
        sights();
        suitorsAndCentury();
        images();
        Due.end("PromisesTest");
    }

    // ---- an object of which all is in use ----

    /** Up to its last act; 5 is dead, 2 and 4 are wed, there are an image, rows, a FAULT, each STATUS and a tape. */
    private static void early(SkyHeirs x) {
        upToImage(x);
        x.deaths(2, 1, 60);
        x.arrange();
        x.seatings();
        x.image();
        x.die(5);
        x.wed(2, 4);
        x.see(1, 95);
        Due.tell(x, "wed");
        x.go(0, 10);
        x.see(0, -1);
        Due.feed(x, TAPE);
    }

    private static void upToImage(SkyHeirs x) {
        Due.tell(x, LAND);
        x.see(0, 110);
        x.go(4, 5);
    }

    private static void past(SkyHeirs x) {
        early(x);
        x.days(3);
    }

    // ---- all that can be seen of an object, by the calls that show it ----

    private static Map<String, String> all(Calls past) {
        Map<String, String> all = new TreeMap<>();
        SkyHeirs x = after(past);
        counted(all, x);
        everybody(all, x);
        ground(all, x);
        kept(all, x);
        all.put("tape", tape(after(past)));
        undoing(all, after(past));
        forgetting(all, after(past));
        SkyHeirs restored = after(past);
        all.put("image", restored.restore() ? describe(restored) : "none");
        return all;
    }

    private static SkyHeirs after(Calls past) {
        SkyHeirs x = new SkyHeirs();
        past.accept(x);
        return x;
    }

    private static void counted(Map<String, String> all, SkyHeirs x) {
        for (int what = 0; what < 13; what++) {
            all.put("count(" + what + ")", "" + x.count(what));
        }
        all.put("fault()", "" + x.fault());
    }

    private static void everybody(Map<String, String> all, SkyHeirs x) {
        for (int person = x.count(0) - 1; person >= 0; person--) {
            for (int what = 0; what < 7; what++) {
                all.put("person(" + person + ", " + what + ")", "" + x.person(person, what));
            }
            for (int part = 0; part < 4; part++) {
                all.put("sky(" + person + ", " + part + ")", "" + x.sky(person, part));
            }
        }
    }

    private static void ground(Map<String, String> all, SkyHeirs x) {
        for (int place = 0; place < 10; place++) {
            for (int what = 0; what < 7; what++) {
                all.put("weather(" + place + ", " + what + ")", "" + x.weather(place, what));
            }
        }
        for (int field = x.count(3) - 1; field >= 0; field--) {
            for (int what = 0; what < 6; what++) {
                all.put("field(" + field + ", " + what + ")", "" + x.field(field, what));
            }
        }
    }

    private static void kept(Map<String, String> all, SkyHeirs x) {
        for (int i = 0; i < 7; i++) {
            int at = i;
            all.put("post(" + i + ")", Due.answer(() -> x.post(at)));
            all.put("seat(" + i + ")", Due.answer(() -> x.seat(at)));
            all.put("death(" + i + ")", Due.answer(() -> x.death(at)));
        }
    }

    private static String tape(SkyHeirs x) {
        return x.land(x.count(9)) + " at " + x.fault() + ", people " + x.count(0);
    }

    /** What undoing comes to, by how many acts are left. */
    private static void undoing(Map<String, String> all, SkyHeirs x) {
        for (int left = x.undo(); left >= 0; left = x.undo()) {
            all.put("left " + left, ActsTest.shot(x));
        }
    }

    private static void forgetting(Map<String, String> all, SkyHeirs x) {
        for (int seen = x.count(8); seen > 0; seen = x.forget()) {
            all.put("seen " + seen, x.fits(0) + " sets, the least " + x.fits(1));
        }
    }

    /** All that an image keeps, as one text. */
    private static String describe(SkyHeirs x) {
        Map<String, String> all = new TreeMap<>();
        all.put("now", ActsTest.shot(x));
        for (int what : new int[] {7, 8, 10, 11, 12}) {
            all.put("count(" + what + ")", "" + x.count(what));
        }
        forgetting(all, x);
        undoing(all, x);
        return all.toString();
    }

    /** What is worked out from all that: it hangs on the wills, the law, the front and who is kin, too. */
    private static Map<String, String> asked(Calls past) {
        Map<String, String> asked = new TreeMap<>();
        SkyHeirs x = after(past);
        asked.put("failing()", "" + x.failing());
        for (int i = 0; i < 36; i++) {
            int one = i / 6;
            int other = i % 6;
            for (int part = 0; part < 4; part++) {
                int which = part;
                asked.put("heir " + i + " of " + part, Due.answer(() -> x.heir(one, other, which)));
            }
            asked.put("kin " + i, "" + x.kin(one, other));
            asked.put("front " + i, Due.answer(() -> x.front(one, other)));
            asked.put("suitors " + i, Due.answer(() -> x.suitors(one, other, one % 2)));
            asked.put("contested " + i, "" + x.contested(one));
            asked.put("century " + i, "" + x.century(i, i, i % 3));
        }
        return asked;
    }

    // ---- what is compared ----

    /** The names and the values then of all that isn't the same any more, one behind the other. */
    private static String differing(Map<String, String> before, Map<String, String> then) {
        StringBuilder differing = new StringBuilder();
        Map<String, String> both = new TreeMap<>(before);
        both.putAll(then);
        for (String name : both.keySet()) {
            String value = then.getOrDefault(name, "gone");
            if (!value.equals(before.getOrDefault(name, "gone"))) {
                differing.append(name).append('=').append(value).append('\n');
            }
        }
        return differing.toString();
    }

    private static String lines(String... changes) {
        Map<String, String> sorted = new TreeMap<>();
        for (String change : changes) {
            int sign = change.indexOf('=');
            sorted.put(change.substring(0, sign), change.substring(sign + 1));
        }
        StringBuilder lines = new StringBuilder();
        sorted.forEach((name, value) -> lines.append(name).append('=').append(value).append('\n'));
        return lines.toString();
    }

    /** The call answers so, behind that past, and just these things are other ones then. */
    private static void changes(String call, Calls past, ToLongFunction<SkyHeirs> run, long answer, String... due) {
        SkyHeirs x = after(past);
        Due.is(call, Due.answer(() -> run.applyAsLong(x)), Long.toString(answer));
        Calls then = y -> {
            past.accept(y);
            run.applyAsLong(y);
        };
        Due.is("what " + call + " changes", differing(all(past), all(then)), lines(due));
    }

    /** An act: besides what it changes there is one more that can be undone. */
    private static void act(String call, Calls past, ToLongFunction<SkyHeirs> run, long answer, String... due) {
        SkyHeirs x = after(past);
        int kept = x.count(7);
        String[] more = java.util.Arrays.copyOf(due, due.length + 2);
        more[due.length] = "count(7)=" + (kept + 1);
        more[due.length + 1] = "left " + kept + "=" + ActsTest.shot(x);
        changes(call, past, run, answer, more);
    }

    private static void leavesAll(String call, ToLongFunction<SkyHeirs> run, long answer) {
        changes(call, PromisesTest::past, run, answer);
        leavesAnswers(call, run);
    }

    private static void leavesAnswers(String call, ToLongFunction<SkyHeirs> run) {
        Calls then = y -> {
            past(y);
            Due.answer(() -> run.applyAsLong(y));
        };
        Due.is("which answers " + call + " changes", differing(asked(PromisesTest::past), asked(then)), "");
    }

    private static void refusedAct(String call, Calls past, ToLongFunction<SkyHeirs> run, long answer) {
        int before = after(past).count(11);
        changes(call, past, run, answer, "count(11)=" + (before + 1));
    }

    private static void throwing(String call, ToLongFunction<SkyHeirs> run, String thrown) {
        SkyHeirs x = after(PromisesTest::past);
        Due.is(call, Due.answer(() -> run.applyAsLong(x)), thrown);
        Calls then = y -> {
            past(y);
            Due.answer(() -> run.applyAsLong(y));
        };
        Due.is("what " + call + " changes", differing(all(PromisesTest::past), all(then)), "");
        leavesAnswers(call, run);
    }

    private static void noSuch(String call, ToLongFunction<SkyHeirs> run) {
        throwing(call, run, Due.NO_SUCH);
    }

    private static void illegal(String call, ToLongFunction<SkyHeirs> run) {
        throwing(call, run, Due.ILLEGAL);
    }

    // ---- 1 to 4 ----

    private static void aText() {
        promise1();
        promise2();
        promise3();
        promise4();
    }

    /** A new object is as one with an empty text, and none has to do with another one. */
    private static void promise1() {
        Calls empty = x -> x.land(0);
        Due.is("a new object", differing(all(x -> { }), all(empty)), "");
        Map<String, String> fresh = all(x -> { });
        Due.is("nobody", fresh.get("count(0)"), "0");
        Due.is("no fields", fresh.get("count(3)"), "0");
        Due.is("front", fresh.get("count(5)"), "300");
        SkyHeirs x = new SkyHeirs();
        SkyHeirs other = after(PromisesTest::past);
        Due.is("nobody, whoever another object knows", x.count(0), 0);
        Due.is("no tape", x.count(9), 0);
        Due.is("no image", x.restore(), false);
        Due.is("six", other.count(0), 6);
    }

    private static void promise2() {
        String person = "person 6 0 0 0 0;   ";
        changes("feed", PromisesTest::past, x -> Due.feed(x, person), 40, "count(9)=40", "tape=0 at -1, people 2");
        changes("feed of no text", PromisesTest::past, x -> x.feed(-1, 0, LEAST, MOST, 1), 40, "count(9)=40",
                "tape=1 at 20, people 6");
        Calls full = x -> {
            past(x);
            for (int i = 0; i < 34; i++) {
                x.feed(0x20202020, 0x20202020, 0x20202020, 0x20202020, 0x0a0a0a0a);
            }
        };
        changes("feed on a full tape", full, x -> x.feed(1, 2, 3, 4, 5), -1);
        Calls nearly = x -> {
            past(x);
            for (int i = 0; i < 33; i++) {
                x.feed(0x20202020, 0x20202020, 0x20202020, 0x20202020, 0x0a0a0a0a);
            }
        };
        changes("the last feed that fits", nearly, x -> x.feed(0x20202020, 0x20202020, 0x20202020, 0x20202020, 0x2020203b),
                700, "count(9)=700", "tape=1 at 699, people 6");
    }

    /** Behind a land all is as in a new object with that land, but STATUS. */
    private static void promise3() {
        Calls anew = x -> Due.tell(x, TAPE);
        Calls behind = x -> {
            past(x);
            x.land(20);
        };
        Due.is("land(20)", after(PromisesTest::past).land(20), 0);
        Due.is("all anew, STATUS stays", differing(all(anew), all(behind)), lines("count(10)=1", "count(11)=1", "count(12)=1"));
        changes("land of a text with a fault", PromisesTest::past, x -> x.land(19 - 3), 1, "count(9)=0", "count(10)=2",
                "fault()=16", "tape=0 at -1, people 0");
        illegal("land(21)", x -> x.land(21));
        illegal("land(-1)", x -> x.land(-1));
        illegal("land(least)", x -> x.land(LEAST));
        illegal("land(most)", x -> x.land(MOST));
    }

    private static void promise4() {
        leavesAll("fault()", SkyHeirs::fault, 3);
        Due.is("without", after(x -> Due.tell(x, TAPE)).fault(), -1);
        Due.is("of the latest land() alone", after(x -> {
            past(x);
            x.land(20);
        }).fault(), -1);
    }

    // ---- 5 to 11 ----

    private static void whatIs() {
        promise5();
        promise6();
        promise7();
        promise8();
        promise9();
        promise10();
        promise11();
    }

    private static void promise5() {
        int[] due = {6, 5, 2, 2, 1, 3000, 1, 4, 2, 20, 1, 1, 1};
        for (int what = 0; what < due.length; what++) {
            int which = what;
            leavesAll("count(" + what + ")", x -> x.count(which), due[what]);
        }
        noSuch("count(13)", x -> x.count(13));
        noSuch("count(-1)", x -> x.count(-1));
    }

    private static void promise6() {
        int[][] due = {{1, 1, 0, -1, -1, 0, 1}, {1, 1, 0, -1, -1, 0, 0}, {1, 2, 2, 0, 1, 0, 4}, {1, 2, 1, 1, -1, 1, -1},
            {1, 5, 0, -1, -1, 0, 2}, {0, -1, 0, -1, -1, 0, -1}};
        for (int person = 0; person < 6; person++) {
            for (int what = 0; what < 7; what++) {
                Due.is("person(" + person + ", " + what + ")", after(PromisesTest::past).person(person, what), due[person][what]);
            }
        }
        leavesAll("person(2, 6)", x -> x.person(2, 6), 4);
        leavesAll("person(5, 1)", x -> x.person(5, 1), -1);
        noSuch("person(6, 0)", x -> x.person(6, 0));
        noSuch("person(0, 7)", x -> x.person(0, 7));
    }

    private static void promise7() {
        leavesAll("sky(2, 2)", x -> x.sky(2, 2), 50);
        leavesAll("sky(5, 0), of the dead", x -> x.sky(5, 0), 0);
        noSuch("sky(0, 4)", x -> x.sky(0, 4));
        noSuch("sky(6, 0)", x -> x.sky(6, 0));
    }

    private static void promise8() {
        int[] due = {10, 0, 0, 0, 0, 0, 1};
        for (int what = 0; what < due.length; what++) {
            int which = what;
            leavesAll("weather(3, " + what + ")", x -> x.weather(3, which), due[what]);
        }
        leavesAll("weather(0, 4)", x -> x.weather(0, 4), 4);
        noSuch("weather(10, 0)", x -> x.weather(10, 0));
        noSuch("weather(3, 7)", x -> x.weather(3, 7));
    }

    private static void promise9() {
        int[][] due = {{1, 450, 50, 300, 180, 0}, {2, 10, 5, 30, 15, 1}};
        for (int field = 0; field < 2; field++) {
            for (int what = 0; what < 6; what++) {
                int f = field;
                int w = what;
                leavesAll("field(" + field + ", " + what + ")", x -> x.field(f, w), due[field][what]);
            }
        }
        noSuch("field(2, 0)", x -> x.field(2, 0));
        noSuch("field(0, 6)", x -> x.field(0, 6));
    }

    private static void promise10() {
        leavesAll("front(0, 1)", x -> x.front(0, 1), 170);
        Calls near = x -> Due.tell(x, LAND.replace("3000", "170"));
        changes("front of 170", near, x -> x.front(0, 1), -171);
        illegal("front(0, 0)", x -> x.front(0, 0));
        illegal("front(5, 0)", x -> x.front(5, 0));
        noSuch("front(5, 6)", x -> x.front(5, 6));
    }

    private static void promise11() {
        leavesAll("kin(3, 4)", x -> x.kin(3, 4), 3);
        leavesAll("kin(0, 5)", x -> x.kin(0, 5), -1);
        leavesAll("kin(5, 5)", x -> x.kin(5, 5), 0);
        noSuch("kin(0, 6)", x -> x.kin(0, 6));
    }

    // ---- 12 to 17 ----

    private static void acts() {
        promise12();
        promise13();
        promise14();
        promise15();
        promise16();
        promise17();
    }

    private static void promise12() {
        act("go(0, 7)", PromisesTest::past, x -> x.go(0, 7), 1, "person(0, 1)=7", "weather(1, 0)=0", "weather(1, 3)=10",
                "weather(1, 4)=1", "weather(1, 5)=1", "weather(7, 0)=100", "weather(7, 3)=20", "weather(7, 4)=0",
                "weather(7, 5)=1");
        act("go(0, 1), where he is", PromisesTest::past, x -> x.go(0, 1), 1);
        refusedAct("go(0, 10)", PromisesTest::past, x -> x.go(0, 10), -1);
        refusedAct("go(0, -1)", PromisesTest::past, x -> x.go(0, -1), -1);
        refusedAct("go(5, 1)", PromisesTest::past, x -> x.go(5, 1), -1);
        noSuch("go(6, 1)", x -> x.go(6, 1));
    }

    private static void promise13() {
        Calls widowed = x -> {
            past(x);
            x.die(1);
        };
        act("wed(0, 3)", widowed, x -> x.wed(0, 3) ? 1 : 0, 1, "person(0, 6)=3", "person(1, 6)=-1", "person(3, 6)=0");
        act("wed(3, 0)", widowed, x -> x.wed(3, 0) ? 1 : 0, 1, "person(0, 6)=3", "person(1, 6)=-1", "person(3, 6)=0");
        refusedAct("wed(0, 0)", widowed, x -> x.wed(0, 0) ? 1 : 0, 0);
        refusedAct("wed(1, 3)", widowed, x -> x.wed(1, 3) ? 1 : 0, 0);
        refusedAct("wed(3, 4)", PromisesTest::past, x -> x.wed(3, 4) ? 1 : 0, 0);
        noSuch("wed(3, 6)", x -> x.wed(3, 6) ? 1 : 0);
    }

    private static void promise14() {
        act("die(1)", PromisesTest::past, x -> x.die(1), 2, "count(1)=4", "person(1, 0)=0", "person(1, 1)=-1",
                "sky(1, 1)=0", "sky(1, 3)=0", "sky(0, 1)=24", "sky(0, 3)=24", "sky(2, 1)=41", "sky(2, 3)=6",
                "weather(1, 1)=24", "weather(1, 3)=24", "weather(1, 5)=1", "weather(2, 1)=41", "weather(2, 3)=86",
                "seen 1=4 sets, the least 5", "seen 2=0 sets, the least -1");
        Calls lonely = x -> Due.tell(x, "person 3 0 7 0 0;person 4 1 1 1 1;");
        act("die(0), to nobody", lonely, x -> x.die(0), 0, "count(1)=1", "count(6)=1", "person(0, 0)=0", "person(0, 1)=-1",
                "sky(0, 1)=0", "weather(3, 0)=10", "weather(3, 1)=0", "weather(3, 4)=0", "weather(3, 5)=0", "weather(3, 6)=1");
        refusedAct("die(5)", PromisesTest::past, x -> x.die(5), -1);
        noSuch("die(6)", x -> x.die(6));
    }

    private static void promise15() {
        act("pawn(4, 1, 3, 7)", PromisesTest::past, x -> x.pawn(4, 1, 3, 7), 17, "sky(4, 3)=0", "sky(1, 3)=17",
                "weather(5, 3)=0", "weather(1, 3)=37");
        refusedAct("pawn(4, 1, 3, 8)", PromisesTest::past, x -> x.pawn(4, 1, 3, 8), -1);
        refusedAct("pawn(4, 1, 3, 0)", PromisesTest::past, x -> x.pawn(4, 1, 3, 0), -1);
        refusedAct("pawn(4, 4, 3, 1)", PromisesTest::past, x -> x.pawn(4, 4, 3, 1), -1);
        refusedAct("pawn(4, 5, 3, 1)", PromisesTest::past, x -> x.pawn(4, 5, 3, 1), -1);
        refusedAct("pawn(5, 4, 3, 1)", PromisesTest::past, x -> x.pawn(5, 4, 3, 1), -1);
        noSuch("pawn(4, 1, 4, 1)", x -> x.pawn(4, 1, 4, 1));
        noSuch("pawn(6, 1, 3, 1)", x -> x.pawn(6, 1, 3, 1));
    }

    private static void promise16() {
        act("days(2)", PromisesTest::past, x -> x.days(2), 2, "count(4)=2", "field(0, 3)=500", "field(0, 4)=300",
                "field(0, 5)=1", "field(1, 3)=50", "field(1, 4)=25");
        act("days(100)", PromisesTest::past, x -> x.days(100), 2, "count(4)=2", "field(0, 3)=9999", "field(0, 4)=6180",
                "field(0, 5)=1", "field(1, 3)=1030", "field(1, 4)=515");
        act("days(1) without fields", x -> Due.tell(x, TAPE), x -> x.days(1), 0);
        refusedAct("days(0)", PromisesTest::past, x -> x.days(0), -1);
        refusedAct("days(101)", PromisesTest::past, x -> x.days(101), -1);
    }

    /** Behind the last act undone all is as if it had never been. */
    private static void promise17() {
        Calls undone = x -> {
            past(x);
            x.undo();
        };
        Due.is("undo()", after(PromisesTest::past).undo(), 3);
        Due.is("undone", differing(all(PromisesTest::early), all(undone)), "");
        changes("undo() of none", x -> Due.tell(x, LAND), SkyHeirs::undo, -1);
    }

    // ---- 18 to 22 ----

    private static void whoWouldGetWhat() {
        promise18();
        promise19();
        promise20();
        promise21();
        promise22();
    }

    private static void promise18() {
        leavesAll("heir(1, 2, 1)", x -> x.heir(1, 2, 1), 36);
        leavesAll("heir(0, 5, 0), one who is dead", x -> x.heir(0, 5, 0), 0);
        illegal("heir(5, 0, 0)", x -> x.heir(5, 0, 0));
        illegal("heir(0, 0, 0)", x -> x.heir(0, 0, 0));
        noSuch("heir(0, 0, 4)", x -> x.heir(0, 0, 4));
        noSuch("heir(5, 6, 0)", x -> x.heir(5, 6, 0));
    }

    private static void promise19() {
        leavesAll("failing()", SkyHeirs::failing, 0);
        Calls heirless = x -> {
            past(x);
            x.die(2);
        };
        changes("failing() behind the death of an heir", heirless, SkyHeirs::failing, 1);
    }

    private static void promise20() {
        leavesAll("contested(0)", x -> x.contested(0), 1 << 1);
        leavesAll("contested(4)", x -> x.contested(4), 1 << 2);
        leavesAll("contested(1), without wills", x -> x.contested(1), 0);
        leavesAll("contested(5), the dead", x -> x.contested(5), 0);
        noSuch("contested(6)", x -> x.contested(6));
    }

    private static void promise21() {
        // of 2 dead 4 has 6 sun, which his will leaves to 0
        changes("deaths(0, 0, 101)", PromisesTest::past, x -> x.deaths(0, 0, 101), 2, "death(0)=2", "death(1)=4");
        changes("deaths(0, 0, 106)", PromisesTest::past, x -> x.deaths(0, 0, 106), 2, "death(0)=2", "death(1)=4");
        changes("deaths(0, 0, 100)", PromisesTest::past, x -> x.deaths(0, 0, 100), 0, "death(0)=" + Due.NO_SUCH,
                "death(1)=" + Due.NO_SUCH);
        leavesAll("deaths(0, 0, 9999)", x -> x.deaths(0, 0, 9999), -1);
        illegal("deaths(0, 0, 0)", x -> x.deaths(0, 0, 0));
        illegal("deaths(0, 0, 10000)", x -> x.deaths(0, 0, 10000));
        illegal("deaths(5, 0, 1)", x -> x.deaths(5, 0, 1));
        noSuch("deaths(0, 4, 0)", x -> x.deaths(0, 4, 0));
    }

    private static void promise22() {
        leavesAll("death(0)", x -> x.death(0), 0);
        leavesAll("death(1)", x -> x.death(1), 1);
        noSuch("death(2)", x -> x.death(2));
        noSuch("death(-1)", x -> x.death(-1));
        Due.noSuch("none is kept", () -> after(PromisesTest::upToImage).death(0));
    }

    // ---- 23 to 26 ----

    private static void rows() {
        promise23();
        promise24();
        promise25();
        promise26();
    }

    /** Seven are alive; the row is that of the first six, the last one of whom has a field to himself. */
    private static void seven(SkyHeirs x) {
        Due.tell(x, "person 1 5 5 5 5;".repeat(7) + "field 1 5 5;");
        x.die(6);
        x.arrange();
        x.undo();
    }

    private static void promise23() {
        changes("arrange()", PromisesTest::past, SkyHeirs::arrange, 1, "post(5)=" + Due.NO_SUCH);
        changes("arrange() of seven", PromisesTest::seven, SkyHeirs::arrange, -2);
        Calls three = x -> {
            past(x);
            x.die(2);
            x.die(4);
        };
        // 0 has 4's rain by his will and is enough for field 1; nobody has the sun for field 0
        changes("arrange() of three", three, SkyHeirs::arrange, 1, "post(0)=1", "post(2)=" + Due.NO_SUCH,
                "post(4)=" + Due.NO_SUCH, "post(5)=" + Due.NO_SUCH);
    }

    private static void promise24() {
        leavesAll("post(2)", x -> x.post(2), 1);
        leavesAll("post(5), who was alive then", x -> x.post(5), -1);
        noSuch("post(6)", x -> x.post(6));
        changes("post(5) of seven", PromisesTest::seven, x -> x.post(5), 0);
        Due.noSuch("post(6) of seven, who wasn't alive then", () -> after(PromisesTest::seven).post(6));
        Due.noSuch("none is kept", () -> after(PromisesTest::upToImage).post(0));
    }

    private static void promise25() {
        changes("seatings()", PromisesTest::past, SkyHeirs::seatings, 24, "seat(5)=" + Due.NO_SUCH);
        Calls two = x -> {
            past(x);
            x.die(1);
            x.die(3);
            x.die(4);
        };
        changes("seatings() of two", two, SkyHeirs::seatings, -2);
        Calls apart = x -> {
            Due.tell(x, "person 1 0 0 0 0;".repeat(4) + "person 1 9 0 0 0;front 9;");
            x.die(4);
            x.seatings();
            x.undo();
        };
        changes("seatings() of which there is none", apart, SkyHeirs::seatings, 0);
    }

    private static void promise26() {
        for (int i = 0; i < 6; i++) {
            int at = i;
            leavesAll("seat(" + i + ")", x -> x.seat(at), i);
        }
        noSuch("seat(6)", x -> x.seat(6));
        noSuch("seat(-1)", x -> x.seat(-1));
        Due.noSuch("none is kept", () -> after(PromisesTest::upToImage).seat(0));
    }

    // ---- 27 to 29 ----

    private static void sights() {
        promise27();
        promise28();
        promise29();
    }

    private static void promise27() {
        changes("see(3, 80)", PromisesTest::past, x -> x.see(3, 80), 3, "count(8)=3", "seen 3=0 sets, the least -1");
        // 110 sun have 0 and 2, 95 rain 2 and 4; 3 may be there too
        changes("see(2, 53)", PromisesTest::past, x -> x.see(2, 53), 3, "count(8)=3", "seen 3=2 sets, the least 21");
        changes("see(0, 10000)", PromisesTest::past, x -> x.see(0, 10000), -1, "count(12)=2");
        changes("see(0, -1)", PromisesTest::past, x -> x.see(0, -1), -1, "count(12)=2");
        Calls four = x -> {
            past(x);
            x.see(2, 53);
            x.see(2, 53);
        };
        changes("see(2, 53), a fifth", four, x -> x.see(2, 53), -1, "count(12)=2");
        noSuch("see(4, 10000)", x -> x.see(4, 10000));
    }

    private static void promise28() {
        changes("forget()", PromisesTest::past, SkyHeirs::forget, 1, "count(8)=1", "seen 2=gone");
        changes("forget() of none", x -> Due.tell(x, LAND), SkyHeirs::forget, -1);
    }

    private static void promise29() {
        leavesAll("fits(0)", x -> x.fits(0), 2);
        leavesAll("fits(1)", x -> x.fits(1), 0b10101);
        leavesAll("fits(2)", x -> x.fits(2), 0b10101);
        leavesAll("fits(3)", x -> x.fits(3), 3);
        Calls none = x -> {
            past(x);
            x.see(0, 1);
        };
        changes("fits(1) of none", none, x -> x.fits(1), -1);
        changes("fits(2) of none", none, x -> x.fits(2), 0);
        noSuch("fits(4)", x -> x.fits(4));
        noSuch("fits(-1)", x -> x.fits(-1));
    }

    // ---- 30 to 33 ----

    private static void suitorsAndCentury() {
        promise30();
        promise31();
    }

    private static void promise30() {
        // without 0 and 1 field 0 has no sun, but 5 for each as it isn't ripe; field 1 is ripe and has 10
        leavesAll("suitors(0, 1, 0)", x -> x.suitors(0, 1, 0), 3);
        leavesAll("suitors(0, 1, 1)", x -> x.suitors(0, 1, 1), 1);
        changes("suitors(0, 1, 1) without fields", x -> Due.tell(x, TAPE + TAPE), x -> x.suitors(0, 1, 1), -1);
        illegal("suitors(0, 0, 0)", x -> x.suitors(0, 0, 0));
        illegal("suitors(0, 5, 0)", x -> x.suitors(0, 5, 0));
        noSuch("suitors(0, 5, 2)", x -> x.suitors(0, 5, 2));
        noSuch("suitors(0, 6, 0)", x -> x.suitors(0, 6, 0));
    }

    private static void promise31() {
        leavesAll("century(1, 0, 0)", x -> x.century(1, 0, 0), 5);
        leavesAll("century(1, 0, 1)", x -> x.century(1, 0, 1), 1);
        leavesAll("century(1, 0, 2)", x -> x.century(1, 0, 2), 1);
        for (int seed : new int[] {0, 1, -7, MOST, LEAST}) {
            int alive = aloneAlive(seed, 60);
            Calls alone = x -> Due.tell(x, TAPE);
            changes("century(" + seed + ", 60, 0) of one", alone, x -> x.century(seed, 60, 0), alive);
            changes("century(" + seed + ", 60, 2) of one", alone, x -> x.century(seed, 60, 2), 1 - alive);
            leavesAll("century(" + seed + ", 60, 2)", x -> x.century(seed, 60, 2) >= 1 ? 1 : 0, 1);
        }
        illegal("century(1, 61, 0)", x -> x.century(1, 61, 0));
        illegal("century(1, -1, 0)", x -> x.century(1, -1, 0));
        noSuch("century(1, 61, 3)", x -> x.century(1, 61, 3));
    }

    /** Whether one who is alone in the land is alive after so many years. */
    private static int aloneAlive(int seed, int years) {
        int state = seed;
        for (int year = 0; year < years; year++) {
            for (int draw = 0; draw < 3; draw++) {
                state = state * 1103515245 + 12345;
            }
            if ((state >>> 16 & 0x7fff) % 4 == 0) {
                return 0;
            }
        }
        return 1;
    }

    private static void images() {
        promise32();
        promise33();
    }

    private static void promise32() {
        ToLongFunction<SkyHeirs> image = x -> {
            x.image();
            return 0;
        };
        changes("image()", PromisesTest::past, image, 0, "image=" + describe(after(PromisesTest::past)));
        Calls told = x -> Due.tell(x, LAND);
        changes("the first image()", told, image, 0, "image=" + describe(after(told)));
    }

    /** The tape, the place of the FAULT, the rows and the image stay; all else is as it was when the image was made. */
    private static void promise33() {
        Map<String, String> then = all(PromisesTest::upToImage);
        Map<String, String> due = all(PromisesTest::past);
        for (String name : due.keySet()) {
            if (!name.matches("count\\(9\\)|fault.*|post.*|seat.*|death.*|tape|image")) {
                due.put(name, then.getOrDefault(name, "gone"));
            }
        }
        due.values().removeIf(value -> value.equals("gone"));
        Due.is("restore()", after(PromisesTest::past).restore(), true);
        Due.is("as the image", differing(due, all(x -> {
            past(x);
            x.restore();
        })), "");
        changes("restore() without", x -> Due.tell(x, LAND), x -> x.restore() ? 1 : 0, 0);
    }
}
