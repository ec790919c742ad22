/** Promises 5 to 11: count, person, sky, weather, field, front, kin. */
public final class StateTest {
    static final String LAND = "person 1 100 0 0 20;person 1 0 60 0 10;child 0 1 2 10 5 50 0;adopted 1 2 0 0 0 80;"
            + "person 3 0 90 3 7;wed 0 1;will 0 2 2;will 0 3 1;will 4 0 5;"
            + "field 1 150 50;field 2 10 5;field 3 0 100;front 150;";

    public static void main(String[] args) {
        counting();
        persons();
        skies();
        weather();
        kinds();
        fields();
        fronts();
        kin();
        Due.end("StateTest");
    }

    private static void counting() {
        SkyHeirs x = Due.of(LAND);
        int[] due = {5, 5, 3, 3, 0, 150, 0, 0, 0, 0, 0, 0, 0};
        for (int what = 0; what < due.length; what++) {
            Due.is("count(" + what + ")", x.count(what), due[what]);
        }
        Due.noSuch("count(13)", () -> x.count(13));
        Due.noSuch("count(-1)", () -> x.count(-1));
        x.die(1);
        x.die(3);
        x.days(2);
        x.see(0, 1);
        x.see(0, -1);
        x.see(1, 10000);
        x.go(1, 1);
        Due.tell(x, "?");
        x.feed(0, 0, 0, 0, 0);
        int[] then = {5, 3, 3, 3, 2, 150, 1, 3, 1, 20, 1, 1, 2};
        for (int what = 0; what < then.length; what++) {
            Due.is("then count(" + what + ")", x.count(what), then[what]);
        }
    }

    private static void persons() {
        SkyHeirs x = Due.of(LAND);
        int[][] due = {
            {1, 1, 0, -1, -1, 0, 1},
            {1, 1, 0, -1, -1, 0, 0},
            {1, 2, 2, 0, 1, 0, -1},
            {1, 2, 1, 1, -1, 1, -1},
            {1, 3, 0, -1, -1, 0, -1}};
        for (int person = 0; person < 5; person++) {
            for (int what = 0; what < 7; what++) {
                Due.is("person(" + person + ", " + what + ")", x.person(person, what), due[person][what]);
            }
        }
        x.die(0);
        Due.is("the dead", x.person(0, 0), 0);
        Due.is("the dead are nowhere", x.person(0, 1), -1);
        Due.is("the dead are wed", x.person(0, 6), 1);
        Due.is("to the dead", x.person(1, 6), 0);
        Due.is("a dead parent", x.person(2, 3), 0);
        for (int person : new int[] {-1, 5, 12, Integer.MAX_VALUE, Integer.MIN_VALUE}) {
            Due.noSuch("person(" + person + ", 0)", () -> x.person(person, 0));
        }
        Due.noSuch("person(0, 7)", () -> x.person(0, 7));
        Due.noSuch("person(0, -1)", () -> x.person(0, -1));
        SkyHeirs y = Due.of("person 0 0 0 0 0;person 0 0 0 0 0;child 1 0 0 0 0 0 0;");
        Due.is("parents as told", y.person(2, 3), 1);
        Due.is("parents as told", y.person(2, 4), 0);
    }

    private static void skies() {
        SkyHeirs x = Due.of(LAND);
        int[][] due = {{100, 0, 0, 20}, {0, 60, 0, 10}, {10, 5, 50, 0}, {0, 0, 0, 80}, {0, 90, 3, 7}};
        for (int person = 0; person < 5; person++) {
            for (int part = 0; part < 4; part++) {
                Due.is("sky(" + person + ", " + part + ")", x.sky(person, part), due[person][part]);
            }
        }
        x.die(4);
        Due.is("sky of the dead", x.sky(4, 1), 0);
        Due.noSuch("sky(5, 0)", () -> x.sky(5, 0));
        Due.noSuch("sky(-1, 0)", () -> x.sky(-1, 0));
        Due.noSuch("sky(0, 4)", () -> x.sky(0, 4));
        Due.noSuch("sky(0, -1)", () -> x.sky(0, -1));
    }

    private static void weather() {
        SkyHeirs x = Due.of(LAND);
        int[] one = {100, 60, 0, 30, 0, 2, 0};
        int[] two = {10, 5, 50, 80, 3, 2, 0};
        int[] nine = {0, 0, 0, 0, 4, 0, 0};
        for (int what = 0; what < 7; what++) {
            Due.is("weather(1, " + what + ")", x.weather(1, what), one[what]);
            Due.is("weather(2, " + what + ")", x.weather(2, what), two[what]);
            Due.is("weather(9, " + what + ")", x.weather(9, what), nine[what]);
        }
        x.go(2, 9);
        Due.is("gone", x.weather(2, 2), 0);
        Due.is("come", x.weather(9, 2), 50);
        for (int place : new int[] {-1, 10, Integer.MIN_VALUE}) {
            Due.noSuch("weather(" + place + ", 0)", () -> x.weather(place, 0));
        }
        Due.noSuch("weather(0, 7)", () -> x.weather(0, 7));
        Due.noSuch("weather(0, -1)", () -> x.weather(0, -1));
    }

    private static int kind(String skies) {
        return Due.of(skies).weather(5, 4);
    }

    private static void kinds() {
        Due.is("hail", kind("person 5 900 901 0 0;person 5 0 0 1 2;"), 5);
        Due.is("hail, cold first", kind("person 5 0 0 1 2;person 5 900 901 0 0;person 5 999 0 0 0;"), 5);
        Due.is("of like ones the first", kind("person 5 9 9 0 0;person 5 0 0 0 5;"), 0);
        Due.is("wind ahead of cold", kind("person 5 0 9 0 0;person 5 0 0 5 5;"), 1);
        Due.is("rain ahead of cold", kind("person 5 0 9 0 9;person 5 0 0 0 5;"), 5);
        Due.is("one alone is no hail", kind("person 5 0 9 0 9;"), 1);
        Due.is("another place", kind("person 5 0 9 0 0;person 4 0 0 0 9;"), 1);
        Due.is("sun", kind("person 5 3 0 3 3;"), 0);
        Due.is("wind", kind("person 5 3 0 4 4;"), 2);
        Due.is("cold", kind("person 5 3 0 4 5;"), 3);
        Due.is("together", kind("person 5 0 4 3 0;person 5 0 0 3 0;"), 2);
        Due.is("none", kind("person 5 0 0 0 0;"), 4);
        Due.is("only above 0", kind("person 5 0 1 0 0;person 5 0 0 0 0;"), 1);
        SkyHeirs x = Due.of("person 5 0 0 9 0;person 5 0 0 10 0;law 0;");
        x.die(0);
        Due.is("a noon's sun is as much as the wind", x.weather(5, 4), 0);
        Due.is("sun of a noon", x.weather(5, 0), 10);
        x.die(1);
        Due.is("sun of two noons", x.weather(5, 0), 20);
        Due.is("two noons", x.weather(5, 6), 2);
        Due.is("all noons", x.count(6), 2);
    }

    private static void fields() {
        SkyHeirs x = Due.of("person 1 100 30 0 0;field 1 100 60;field 2 0 0;field 3 0 1;field 4 1 0;");
        int[][] due = {{1, 100, 60, 0, 0, 0}, {2, 0, 0, 0, 0, 1}, {3, 0, 1, 0, 0, 0}, {4, 1, 0, 0, 0, 0}};
        for (int field = 0; field < 4; field++) {
            for (int what = 0; what < 6; what++) {
                Due.is("field(" + field + ", " + what + ")", x.field(field, what), due[field][what]);
            }
        }
        Due.is("one is ripe", x.count(4), 1);
        x.days(1);
        Due.is("sun", x.field(0, 3), 100);
        Due.is("rain", x.field(0, 4), 30);
        Due.is("rain is missing", x.field(0, 5), 0);
        x.days(1);
        Due.is("ripe", x.field(0, 5), 1);
        Due.is("two are ripe", x.count(4), 2);
        Due.noSuch("field(4, 0)", () -> x.field(4, 0));
        Due.noSuch("field(-1, 0)", () -> x.field(-1, 0));
        Due.noSuch("field(0, 6)", () -> x.field(0, 6));
        Due.noSuch("field(0, -1)", () -> x.field(0, -1));
    }

    private static void fronts() {
        SkyHeirs x = Due.of("person 1 0 10 20 30;person 2 10 0 30 20;person 3 10 0 30 19;person 1 0 0 0 0;front 41;");
        Due.is("40 of 41", x.front(0, 1), 40);
        Due.is("41 of 41", x.front(0, 2), -42);
        Due.is("41 of 41, turned round", x.front(2, 0), -42);
        Due.is("1 of 41", x.front(1, 2), 1);
        Due.is("60 of 41", x.front(3, 0), -61);
        Due.illegal("both are one", () -> x.front(1, 1));
        x.die(3);
        Due.illegal("one is dead", () -> x.front(3, 0));
        Due.illegal("the other one is dead", () -> x.front(0, 3));
        Due.noSuch("front(3, 4)", () -> x.front(3, 4));
        Due.noSuch("front(4, 4)", () -> x.front(4, 4));
        Due.noSuch("front(-1, 0)", () -> x.front(-1, 0));
        SkyHeirs y = Due.of("person 1 300 0 0 0;person 1 0 0 0 0;person 1 1 0 0 0;");
        Due.is("300 without", y.front(0, 1), -301);
        Due.is("299 without", y.front(0, 2), 299);
    }

    private static void kin() {
        // 0 and 1 are wed, 2 is their child; 3, adopted by 2, is wed to 4; 5 is alone
        SkyHeirs x = Due.of("person 0 0 0 0 0;person 0 0 0 0 0;child 0 1 0 0 0 0 0;adopted 2 0 0 0 0 0;"
                + "person 0 0 0 0 0;person 0 0 0 0 0;wed 0 1;wed 3 4;");
        int[][] due = {{0, 1, 1, 2, 3, -1}, {1, 0, 1, 2, 3, -1}, {1, 1, 0, 1, 2, -1}, {2, 2, 1, 0, 1, -1},
            {3, 3, 2, 1, 0, -1}, {-1, -1, -1, -1, -1, 0}};
        for (int one = 0; one < 6; one++) {
            for (int other = 0; other < 6; other++) {
                Due.is("kin(" + one + ", " + other + ")", x.kin(one, other), due[one][other]);
            }
        }
        x.die(2);
        x.die(3);
        Due.is("by the dead", x.kin(0, 4), 3);
        Due.is("to the dead", x.kin(0, 3), 2);
        Due.is("the dead to himself", x.kin(3, 3), 0);
        x.wed(4, 5);
        Due.is("wed anew", x.kin(0, 4), -1);
        Due.is("wed anew", x.kin(4, 5), 1);
        Due.noSuch("kin(0, 6)", () -> x.kin(0, 6));
        Due.noSuch("kin(-1, 0)", () -> x.kin(-1, 0));
        SkyHeirs y = Due.of("person 0 0 0 0 0;adopted 0 0 0 0 0 0;adopted 1 0 0 0 0 0;adopted 2 0 0 0 0 0;"
                + "adopted 3 0 0 0 0 0;adopted 4 0 0 0 0 0;adopted 5 0 0 0 0 0;adopted 6 0 0 0 0 0;"
                + "adopted 7 0 0 0 0 0;adopted 8 0 0 0 0 0;adopted 9 0 0 0 0 0;adopted 10 0 0 0 0 0;");
        Due.is("a long line", y.kin(0, 11), 11);
        Due.is("a long line, up", y.kin(11, 0), 11);
    }
}
