/** Promises 23 to 26: arrange, post, seatings, seat. */
public final class TableTest {
    public static void main(String[] args) {
        arranging();
        firstOfLike();
        noonsAndGot();
        spent();
        seatings();
        fronts();
        seats();
        Due.end("TableTest");
    }

    private static void posts(SkyHeirs x, int... due) {
        for (int person = 0; person < due.length; person++) {
            Due.is("post(" + person + ")", x.post(person), due[person]);
        }
    }

    private static void arranging() {
        SkyHeirs x = Due.of(StateTest.LAND);
        Due.noSuch("none is kept", () -> x.post(0));
        Due.is("two fields", x.arrange(), 2);
        posts(x, -1, 2, 1, -1, 2);
        Due.noSuch("post(5)", () -> x.post(5));
        Due.noSuch("post(-1)", () -> x.post(-1));
        Due.noSuch("post(32)", () -> x.post(32));
        Due.is("nobody moved", x.person(1, 1), 1);
        x.die(4);
        posts(x, -1, 2, 1, -1, 2);
        Due.is("of those alive", x.arrange(), 2);
        posts(x, 2, 2, 1, -1);
        Due.noSuch("he wasn't alive then", () -> x.post(4));
        x.undo();
        Due.noSuch("he wasn't alive then, though now", () -> x.post(4));
        Due.is("a new object", new SkyHeirs().arrange(), 0);
    }

    private static void firstOfLike() {
        SkyHeirs x = Due.of("person 0 5 5 0 0;person 0 5 5 0 0;field 1 5 5;field 2 5 5;");
        Due.is("both", x.arrange(), 2);
        posts(x, 0, 1);
        SkyHeirs y = Due.of("person 0 5 5 0 0;person 0 5 5 0 0;field 1 5 5;field 2 6 5;field 3 0 0;");
        Due.is("two of three", y.arrange(), 2);
        posts(y, -1, 0);
        SkyHeirs z = Due.of("person 0 4 5 0 0;person 0 5 4 0 0;field 1 5 5;");
        Due.is("of both it wants", z.arrange(), 1);
        posts(z, 0, 0);
        SkyHeirs none = Due.of("person 0 4 5 0 0;person 0 5 4 0 0;field 1 10 5;");
        Due.is("none", none.arrange(), 0);
        posts(none, -1, -1);
        SkyHeirs without = Due.of("person 0 4 5 0 0;");
        Due.is("no fields", without.arrange(), 0);
        posts(without, -1);
    }

    private static void noonsAndGot() {
        SkyHeirs x = Due.of("person 1 0 0 0 0;person 0 7 0 0 0;field 1 17 0;field 2 5 0;law 0;");
        Due.is("one", x.arrange(), 1);
        posts(x, -1, 1);
        x.go(1, 2);
        x.days(1);
        Due.is("what they got doesn't count", x.arrange(), 1);
        posts(x, -1, 1);
        x.die(0);
        Due.is("by the noon", x.arrange(), 1);
        Due.is("the first field is the first", x.post(1), 0);
        SkyHeirs y = Due.of("person 1 0 0 0 0;person 0 7 0 0 0;field 1 10 0;field 2 5 0;law 0;");
        y.die(0);
        Due.is("the noon alone and one", y.arrange(), 2);
        Due.is("to the other one", y.post(1), 1);
    }

    private static void spent() {
        String seven = "person 0 1 1 0 0;".repeat(7);
        String four = "field 1 1 1;field 2 1 1;field 3 1 1;field 4 1 1;";
        SkyHeirs x = Due.of(seven + four);
        Due.is("more than 6", x.arrange(), -2);
        Due.noSuch("none is kept", () -> x.post(0));
        x.die(3);
        Due.is("6 are alive", x.arrange(), 4);
        posts(x, -1, -1, 0);
        Due.is("post(6)", x.post(6), 3);
        x.undo();
        Due.is("spent again", x.arrange(), -2);
        Due.is("what is kept stays", x.post(6), 3);
        SkyHeirs y = Due.of("person 0 1 1 0 0;" + four + "field 5 1 1;");
        Due.is("more than 4 fields", y.arrange(), -2);
        SkyHeirs z = Due.of("person 0 1 1 0 0;" + four);
        Due.is("4 fields", z.arrange(), 1);
        posts(z, 0);
    }

    private static void seatings() {
        String one = "person 0 1 1 1 1;";
        int[] due = {-2, -2, -2, 2, 6, 24, 120, 720, -2, -2, -2, -2, -2};
        for (int people = 0; people <= 12; people++) {
            Due.is("seatings of " + people, Due.of(one.repeat(people)).seatings(), due[people]);
        }
    }

    private static void fronts() {
        // 0 and 1 are a front, 1 and 3 too
        SkyHeirs x = Due.of("person 0 0 0 0 0;person 0 20 0 0 0;person 0 10 0 0 0;person 0 0 0 0 0;front 20;");
        Due.is("none, 1 may sit beside 2 alone", x.seatings(), 0);
        Due.noSuch("none is kept", () -> x.seat(0));
        SkyHeirs y = Due.of("person 0 0 0 0 0;person 0 20 0 0 0;person 0 10 0 0 0;person 0 10 0 0 0;front 20;");
        Due.is("two", y.seatings(), 2);
        int[] due = {0, 2, 1, 3};
        for (int i = 0; i < 4; i++) {
            Due.is("seat(" + i + ")", y.seat(i), due[i]);
        }
        y.pawn(3, 2, 0, 9);
        Due.is("0 and 2, 1 and 3 as near as may be", y.seatings(), 2);
        y.pawn(3, 2, 0, 1);
        Due.is("no more", y.seatings(), 0);
        Due.is("what is kept stays", y.seat(1), 2);
        SkyHeirs z = Due.of("person 0 20 0 0 0;person 0 10 0 0 0;person 0 0 0 0 0;front 20;");
        Due.is("the last beside the first too", z.seatings(), 0);
    }

    private static void seats() {
        SkyHeirs x = Due.of("person 0 1 1 1 1;".repeat(5));
        Due.noSuch("none is kept", () -> x.seat(0));
        x.die(0);
        x.die(2);
        Due.is("three", x.seatings(), 2);
        Due.is("the eldest first", x.seat(0), 1);
        Due.is("then", x.seat(1), 3);
        Due.is("then", x.seat(2), 4);
        Due.noSuch("seat(3)", () -> x.seat(3));
        Due.noSuch("seat(-1)", () -> x.seat(-1));
        x.die(1);
        Due.is("spent", x.seatings(), -2);
        Due.is("what is kept stays", x.seat(0), 1);
    }
}
