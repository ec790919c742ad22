/** Part 2, what falls and what changes: WEATHER and its KIND, FRONTS, DAYS, ACTS and their undoing, from both sides. */
public final class ChangesTest {
    public static void main(String[] args) {
        together();
        noonSun();
        kindsOfOneAndTwo();
        hail();
        fronts();
        ripe();
        atMost9999();
        manyDays();
        sixFieldsAndNoons();
        whatIsAnAct();
        howManyActs();
        weddings();
        pawns();
        undone();
        Due.end("ChangesTest");
    }

    private static void weather(SkyHeirs x, int place, int... due) {
        for (int what = 0; what < due.length; what++) {
            Due.is("weather(" + place + ", " + what + ")", x.weather(place, what), due[what]);
        }
    }

    private static void together() {
        SkyHeirs x = Due.of("person 0 1 2 3 4;person 9 50 60 70 80;person 0 10 20 30 40;person 0 100 200 300 400;");
        weather(x, 0, 111, 222, 333, 444, 3, 3, 0);
        weather(x, 9, 50, 60, 70, 80, 3, 1, 0);
        for (int place = 1; place < 9; place++) {
            weather(x, place, 0, 0, 0, 0, 4, 0, 0);
        }
        x.go(3, 9);
        weather(x, 0, 11, 22, 33, 44, 3, 2, 0);
        weather(x, 9, 150, 260, 370, 480, 3, 2, 0);
        x.die(0);
        weather(x, 0, 20, 20, 30, 40, 3, 1, 1);
        weather(x, 9, 150, 260, 370, 480, 3, 2, 0);
    }

    private static void noonSun() {
        SkyHeirs x = Due.of("person 4 0 9 0 0;person 4 0 1 0 0;person 4 0 0 0 0;");
        weather(x, 4, 0, 10, 0, 0, 1, 3, 0);
        x.die(2);
        weather(x, 4, 10, 10, 0, 0, 0, 2, 1);
        x.die(1);
        weather(x, 4, 20, 9, 0, 0, 0, 1, 2);
        x.go(0, 5);
        weather(x, 4, 20, 0, 0, 0, 0, 0, 2);
        weather(x, 5, 0, 9, 0, 0, 1, 1, 0);
    }

    private static int greatest(int... parts) {
        int most = 4;
        for (int part = 3; part >= 0; part--) {
            boolean atLeast = parts[part] > 0 && (most == 4 || parts[part] >= parts[most]);
            most = atLeast ? part : most;
        }
        return most;
    }

    private static String person(int[] sky) {
        return "person 5 " + sky[0] + " " + sky[1] + " " + sky[2] + " " + sky[3] + ";";
    }

    private static int[] sky(int code, int base) {
        return new int[] {code % base, code / base % base, code / base / base % base, code / base / base / base};
    }

    /** All skies of 0 to 2 for one, of 0 and 1 or 0 and 3 for two. */
    private static void kindsOfOneAndTwo() {
        for (int code = 0; code < 81; code++) {
            int[] one = sky(code, 3);
            Due.is("kind of " + person(one), Due.of(person(one)).weather(5, 4), greatest(one));
        }
        for (int code = 0; code < 256; code++) {
            int[] one = sky(code % 16, 2);
            int[] other = sky(code / 16, 2);
            for (int part = 0; part < 4; part++) {
                other[part] *= 3;
            }
            int a = greatest(one);
            int b = greatest(other);
            boolean hail = a == 1 && b == 3 || a == 3 && b == 1;
            int all = greatest(one[0] + other[0], one[1] + other[1], one[2] + other[2], one[3] + other[3]);
            Due.is("kind of " + person(one) + person(other), Due.of(person(one) + person(other)).weather(5, 4), hail ? 5 : all);
        }
    }

    private static void hail() {
        String rain = "person 5 0 1 0 0;";
        String cold = "person 5 0 0 0 1;";
        String sun = "person 5 999 0 0 0;";
        Due.is("whatever else is there", Due.of(sun + rain + sun + cold + sun).weather(5, 4), 5);
        Due.is("cold is missing", Due.of(sun + rain + rain).weather(5, 4), 0);
        Due.is("rain is missing", Due.of(sun + cold + cold).weather(5, 4), 0);
        Due.is("at one place", Due.of(rain + cold.replace("5", "6")).weather(5, 4), 1);
        Due.is("at one place", Due.of(rain + cold.replace("5", "6")).weather(6, 4), 3);
        Due.is("above 0", Due.of(rain + "person 5 0 0 0 0;").weather(5, 4), 1);
        Due.is("above 0", Due.of(cold + "person 5 0 0 0 0;").weather(5, 4), 3);
        Due.is("sun is like the rain of one", Due.of("person 5 1 1 0 0;" + cold).weather(5, 4), 0);
        Due.is("wind is like the cold of one", Due.of("person 5 0 0 1 1;" + rain).weather(5, 4), 1);
        Due.is("rain is like the wind of one", Due.of("person 5 0 1 1 0;" + cold).weather(5, 4), 5);
        // the noon's sun is nobody's: hail stands
        SkyHeirs x = Due.of(rain + cold + "person 5 0 0 0 0;law 0;");
        x.die(2);
        weather(x, 5, 10, 1, 0, 1, 5, 2, 1);
        x.go(1, 6);
        weather(x, 5, 10, 1, 0, 0, 0, 1, 1);
        x.go(1, 5);
        weather(x, 5, 10, 1, 0, 1, 5, 2, 1);
        x.die(1);
        weather(x, 5, 20, 1, 0, 0, 0, 1, 2);
    }

    private static void fronts() {
        // each part by itself, on both sides
        for (int part = 0; part < 4; part++) {
            String far = "person 1 5 5 5 5;person 2" + " 5".repeat(part) + " @" + " 5".repeat(3 - part) + ";front 100;";
            Due.is("99 of 100", Due.of(far.replace("@", "104")).front(0, 1), 99);
            Due.is("100 of 100", Due.of(far.replace("@", "105")).front(0, 1), -101);
            Due.is("101 of 100", Due.of(far.replace("@", "106")).front(1, 0), -102);
        }
        SkyHeirs x = Due.of("person 1 30 0 30 0;person 1 0 20 0 20;person 1 30 1 30 1;front 100;");
        Due.is("part by part, together", x.front(0, 1), -101);
        Due.is("the other way round", x.front(1, 0), -101);
        Due.is("part by part, together", x.front(1, 2), 98);
        Due.is("2 of 100", x.front(0, 2), 2);
        SkyHeirs y = Due.of("person 1 5 5 5 5;person 1 5 5 5 5;");
        Due.is("alike", y.front(0, 1), 0);
        SkyHeirs z = Due.of("person 1 300 0 0 0;person 1 0 0 0 0;person 1 1 0 0 0;");
        Due.is("300 without", z.front(0, 1), -301);
        Due.is("299 without", z.front(2, 0), 299);
        z.pawn(0, 2, 0, 1);
        Due.is("298 then", z.front(0, 1), 299);
        Due.is("297 then", z.front(0, 2), 297);
    }

    private static void ripe() {
        int[][] due = {{100, 50, 1}, {99, 50, 1}, {101, 50, 0}, {100, 49, 1}, {100, 51, 0}, {0, 0, 1}, {101, 51, 0}, {0, 51, 0},
            {101, 0, 0}, {100, 0, 1}, {0, 50, 1}};
        for (int[] want : due) {
            SkyHeirs x = Due.of("person 3 100 50 0 0;field 3 " + want[0] + " " + want[1] + ";");
            boolean nothing = want[0] == 0 && want[1] == 0;
            Due.is("at first", x.field(0, 5), nothing ? 1 : 0);
            Due.is("ripe ones at first", x.count(4), nothing ? 1 : 0);
            Due.is("after a day", x.days(1), want[2]);
            Due.is("got sun", x.field(0, 3), 100);
            Due.is("got rain", x.field(0, 4), 50);
            Due.is("ripe", x.field(0, 5), want[2]);
            Due.is("ripe ones", x.count(4), want[2]);
            Due.is("after another day", x.days(1), 1);
        }
    }

    private static void atMost9999() {
        SkyHeirs x = Due.of("person 3 99 100 0 0;field 3 9999 9999;");
        Due.is("100 days", x.days(100), 0);
        Due.is("sun", x.field(0, 3), 9900);
        Due.is("rain", x.field(0, 4), 9999);
        Due.is("one day more", x.days(1), 1);
        Due.is("9999 at last", x.field(0, 3), 9999);
        Due.is("no more", x.field(0, 4), 9999);
        Due.is("one day more", x.days(1), 1);
        Due.is("no more", x.field(0, 3), 9999);
        x.undo();
        x.undo();
        Due.is("undone", x.field(0, 3), 9900);
        SkyHeirs y = Due.of("person 3 98 99 0 0;field 3 9999 9998;field 4 0 0;");
        y.days(100);
        y.days(2);
        Due.is("9996", y.field(0, 3), 9996);
        Due.is("never more", y.field(0, 4), 9999);
        Due.is("9999 is missing 3", y.field(0, 5), 0);
        Due.is("three are enough", y.days(1), 2);
        SkyHeirs z = Due.of("person 3 999 999 0 0;".repeat(12) + "field 3 9999 9999;law number = 0;");
        Due.is("11988 a day", z.days(1), 1);
        Due.is("9999 at most", z.field(0, 3), 9999);
        Due.is("100 days of 11988", z.days(100), 1);
        Due.is("9999 at most", z.field(0, 4), 9999);
    }

    private static void manyDays() {
        for (int many : new int[] {1, 2, 50, 99, 100}) {
            SkyHeirs x = Due.of("person 3 3 2 0 0;field 3 " + 3 * many + " 0;field 2 1 0;");
            Due.is("so many days", x.days(many), 1);
            Due.is("sun", x.field(0, 3), 3 * many);
            Due.is("rain", x.field(0, 4), 2 * many);
            Due.is("elsewhere", x.field(1, 3), 0);
            Due.is("one act", x.count(7), 1);
            Due.is("undone at once", x.undo(), 0);
            Due.is("nothing", x.field(0, 3), 0);
        }
        SkyHeirs x = Due.of("person 3 3 2 0 0;field 3 1 1;");
        for (int many : new int[] {0, -1, 101, Integer.MAX_VALUE, Integer.MIN_VALUE}) {
            Due.is("days(" + many + ")", x.days(many), -1);
            Due.is("no day", x.field(0, 3), 0);
        }
        Due.is("refused", x.count(11), 5);
    }

    /** Six fields that got both, and noons at all ten places: none is kept in another one's stead. */
    private static void sixFieldsAndNoons() {
        StringBuilder land = new StringBuilder();
        for (int place = 0; place < 10; place++) {
            land.append("person ").append(place).append(' ').append(place + 1).append(' ').append(20 + place).append(" 0 0;");
        }
        for (int field = 0; field < 6; field++) {
            land.append("field ").append(9 - field).append(" 500 500;");
        }
        SkyHeirs x = Due.of(land + "law 0;");
        Due.is("none is ripe", x.days(7), 0);
        for (int person = 0; person < 10; person++) {
            Due.is("lost", x.die(person), 0);
        }
        for (int field = 0; field < 6; field++) {
            Due.is("sun", x.field(field, 3), 7 * (10 - field));
            Due.is("rain", x.field(field, 4), 7 * (29 - field));
        }
        for (int place = 0; place < 10; place++) {
            Due.is("a noon", x.weather(place, 6), 1);
        }
        Due.is("none is ripe", x.days(100), 0);
        for (int field = 0; field < 6; field++) {
            Due.is("sun", x.field(field, 3), 7 * (10 - field) + 1000);
            Due.is("rain", x.field(field, 4), 7 * (29 - field));
        }
        Due.is("all noons", x.count(6), 10);
    }

    private static void whatIsAnAct() {
        SkyHeirs x = Due.of("person 1 5 5 5 5;person 2 0 0 0 0;person 3 0 0 0 0;");
        Due.is("to where he is", x.go(0, 1), 1);
        Due.is("an act", x.count(7), 1);
        Due.is("days without fields", x.days(1), 0);
        Due.is("an act", x.count(7), 2);
        Due.is("there", x.pawn(0, 1, 0, 5), 5);
        Due.is("and back", x.pawn(1, 0, 0, 5), 5);
        Due.is("two acts", x.count(7), 4);
        Due.is("wed", x.wed(0, 1), true);
        Due.is("an act", x.count(7), 5);
        Due.is("the death of one who has nothing", x.die(2), 0);
        Due.is("an act", x.count(7), 6);
        x.go(2, 1);
        x.wed(0, 1);
        x.die(2);
        x.pawn(0, 1, 0, 6);
        x.days(0);
        Due.is("what is refused is none", x.count(7), 6);
        Due.is("five are refused", x.count(11), 5);
        x.see(0, 1);
        x.forget();
        x.image();
        x.restore();
        x.arrange();
        x.seatings();
        x.deaths(0, 0, 1);
        Due.is("nor are others", x.count(7), 6);
    }

    private static void howManyActs() {
        SkyHeirs x = Due.of("person 0 1 1 1 1;");
        for (int i = 1; i <= 39; i++) {
            x.go(0, i % 10);
        }
        Due.is("39", x.count(7), 39);
        x.go(0, 4);
        Due.is("40", x.count(7), 40);
        x.go(0, 5);
        Due.is("the latest 40", x.count(7), 40);
        for (int left = 39; left >= 0; left--) {
            Due.is("undo", x.undo(), left);
        }
        Due.is("where the first of the 40 began", x.person(0, 1), 1);
        Due.is("no more", x.undo(), -1);
        Due.is("as it was", x.person(0, 1), 1);
        Due.is("none is counted as refused", x.count(11), 0);
        SkyHeirs y = Due.of("person 0 1 1 1 1;");
        for (int i = 1; i <= 40; i++) {
            y.go(0, i % 10);
        }
        for (int left = 39; left >= 0; left--) {
            Due.is("undo", y.undo(), left);
        }
        Due.is("all 40 are undone", y.person(0, 1), 0);
    }

    private static void couples(SkyHeirs x, int... due) {
        for (int person = 0; person < due.length; person++) {
            Due.is("with whom " + person + " is wed", x.person(person, 6), due[person]);
        }
    }

    private static void weddings() {
        SkyHeirs x = Due.of("person 1 1 1 1 1;".repeat(6) + "wed 0 1;wed 2 3;law 0;");
        x.die(0);
        couples(x, 1, 0, 3, 2, -1, -1);
        Due.is("a widowed one and one who is not wed", x.wed(4, 1), true);
        couples(x, -1, 4, 3, 2, 1, -1);
        Due.is("undo", x.undo(), 1);
        couples(x, 1, 0, 3, 2, -1, -1);
        x.die(3);
        Due.is("two widowed ones", x.wed(1, 2), true);
        couples(x, -1, 2, 1, -1, -1, -1);
        Due.is("wed to one who is alive", x.wed(2, 4), false);
        x.die(1);
        Due.is("again", x.wed(2, 4), true);
        couples(x, -1, -1, 4, -1, 2, -1);
        x.die(4);
        x.die(2);
        couples(x, -1, -1, 4, -1, 2, -1);
        Due.is("the dead", x.wed(2, 5), false);
        Due.is("the dead", x.wed(5, 4), false);
        Due.is("the dead with the dead", x.wed(2, 4), false);
        Due.is("himself", x.wed(5, 5), false);
        Due.is("refused", x.count(11), 5);
        SkyHeirs y = Due.of("person 1 1 1 1 1;person 1 1 1 1 1;child 0 1 1 1 1 1 1;");
        Due.is("a parent", y.wed(0, 2), true);
        Due.is("kin by both is one step", y.kin(2, 0), 1);
    }

    private static void pawns() {
        for (int part = 0; part < 4; part++) {
            SkyHeirs x = Due.of("person 1 9 9 9 9;person 1 4 4 4 4;");
            Due.is("one", x.pawn(0, 1, part, 1), 5);
            Due.is("the rest", x.pawn(0, 1, part, 8), 13);
            Due.is("he has none", x.pawn(0, 1, part, 1), -1);
            Due.is("more than he has", x.pawn(1, 0, part, 14), -1);
            Due.is("all he has", x.pawn(1, 0, part, 13), 13);
            for (int other = 0; other < 4; other++) {
                Due.is("of 0", x.sky(0, other), other == part ? 13 : 9);
                Due.is("of 1", x.sky(1, other), other == part ? 0 : 4);
            }
            Due.is("acts", x.count(7), 3);
            Due.is("refused", x.count(11), 2);
        }
        SkyHeirs x = Due.of("person 1 999 0 0 0;person 1 999 0 0 0;");
        Due.is("above 999", x.pawn(0, 1, 0, 999), 1998);
        Due.is("more than 999 at once", x.pawn(1, 0, 0, 1998), 1998);
        Due.is("wherever they are", x.go(1, 4), 1);
        Due.is("wherever they are", x.pawn(0, 1, 0, 1), 1);
    }

    /** Of each kind of act: undone, the last one first, all is as it was. */
    private static void undone() {
        SkyHeirs x = Due.of("person 1 9 8 7 6;person 1 0 0 0 0;adopted 0 2 1 1 1 1;field 1 5 5;wed 0 1;law 0;");
        String first = ActsTest.shot(x);
        x.go(0, 7);
        Due.is("going", x.undo(), 0);
        Due.is("as it was", ActsTest.shot(x), first);
        x.die(0);
        Due.is("a death", x.undo(), 0);
        Due.is("as it was", ActsTest.shot(x), first);
        x.pawn(0, 2, 3, 6);
        Due.is("a pawn", x.undo(), 0);
        Due.is("as it was", ActsTest.shot(x), first);
        x.days(100);
        Due.is("days", x.undo(), 0);
        Due.is("as it was", ActsTest.shot(x), first);
        x.die(1);
        String second = ActsTest.shot(x);
        x.wed(0, 2);
        Due.is("a wedding", x.undo(), 1);
        Due.is("as it was", ActsTest.shot(x), second);
        Due.is("a death that left a noon", x.undo(), 0);
        Due.is("as it was", ActsTest.shot(x), first);
        Due.is("none", x.undo(), -1);
        Due.is("as it was", ActsTest.shot(x), first);
    }
}
