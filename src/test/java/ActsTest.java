/** Promises 12 to 17: go, wed, die, pawn, days, undo. */
public final class ActsTest {
    public static void main(String[] args) {
        going();
        weddings();
        deaths();
        portions();
        pawning();
        days();
        undoing();
        fortyActs();
        Due.end("ActsTest");
    }

    private static void going() {
        SkyHeirs x = Due.of("person 1 1 1 1 1;person 9 1 1 1 1;");
        Due.is("go", x.go(0, 0), 1);
        Due.is("go where he is", x.go(0, 0), 0);
        Due.is("go", x.go(0, 9), 0);
        Due.is("there", x.person(0, 1), 9);
        Due.is("acts", x.count(7), 3);
        Due.is("no such place", x.go(0, 10), -1);
        Due.is("no such place", x.go(0, -1), -1);
        x.die(0);
        Due.is("dead", x.go(0, 1), -1);
        Due.is("refused", x.count(11), 3);
        Due.is("acts", x.count(7), 4);
        Due.noSuch("go(2, 0)", () -> x.go(2, 0));
        Due.noSuch("go(-1, 99)", () -> x.go(-1, 99));
        Due.is("an exception isn't counted", x.count(11), 3);
    }

    private static void weddings() {
        String one = "person 1 1 1 1 1;";
        SkyHeirs x = Due.of(one.repeat(6) + "wed 0 1;wed 2 3;");
        Due.is("wed to one alive", x.wed(0, 4), false);
        Due.is("wed to one alive", x.wed(4, 0), false);
        Due.is("a couple again", x.wed(0, 1), false);
        Due.is("both are one", x.wed(4, 4), false);
        Due.is("refused", x.count(11), 4);
        Due.is("wed", x.wed(4, 5), true);
        Due.is("wed", x.person(5, 6), 4);
        Due.is("undo", x.undo(), 0);
        Due.is("not wed", x.person(4, 6), -1);
        x.die(0);
        x.die(2);
        Due.is("a dead one", x.wed(0, 4), false);
        Due.is("a dead one", x.wed(4, 0), false);
        Due.is("his dead couple again", x.wed(0, 1), false);
        Due.is("two widowed", x.wed(1, 3), true);
        int[] due = {-1, 3, -1, 1, -1, -1};
        for (int person = 0; person < 6; person++) {
            Due.is("person(" + person + ", 6)", x.person(person, 6), due[person]);
        }
        Due.is("undo", x.undo(), 2);
        Due.is("wed to a dead one", x.person(1, 6), 0);
        Due.is("wed to a dead one", x.person(2, 6), 3);
        Due.is("a widowed one and one alone", x.wed(4, 1), true);
        Due.is("no more", x.person(0, 6), -1);
        Due.is("still", x.person(3, 6), 2);
        Due.noSuch("wed(0, 6)", () -> x.wed(0, 6) ? 1 : 0);
        Due.noSuch("wed(6, 0)", () -> x.wed(6, 0) ? 1 : 0);
        Due.noSuch("wed(-1, -1)", () -> x.wed(-1, -1) ? 1 : 0);
        Due.is("refused", x.count(11), 7);
    }

    private static void deaths() {
        SkyHeirs x = Due.of("person 1 100 0 0 0;person 1 0 0 0 0;child 0 1 2 10 5 50 0;adopted 1 2 0 0 0 80;"
                + "person 3 0 90 3 7;will 4 0 5;");
        Due.is("without a law the child", x.die(0), 1);
        Due.is("sun", x.sky(2, 0), 110);
        Due.is("none left", x.sky(0, 0), 0);
        Due.is("nowhere", x.person(0, 1), -1);
        Due.is("dead already", x.die(0), -1);
        Due.is("refused", x.count(11), 1);
        Due.is("both children, born or adopted", x.die(1), 2);
        Due.is("no will to the dead, no child", x.die(4), 0);
        Due.is("a noon", x.weather(3, 6), 1);
        Due.is("lost", x.weather(3, 1), 0);
        Due.is("not to the parents", x.die(2), 0);
        Due.is("the last one", x.die(3), 0);
        Due.is("nobody is alive", x.count(1), 0);
        Due.is("two noons", x.weather(2, 6), 2);
        Due.is("acts", x.count(7), 5);
        Due.noSuch("die(5)", () -> x.die(5));
        Due.noSuch("die(-1)", () -> x.die(-1));
        SkyHeirs y = Due.of("person 4 0 0 0 0;person 4 0 0 0 0;law spouse + here * 2;wed 0 1;");
        Due.is("nothing is left to one", y.die(0), 1);
        Due.is("no noon", y.count(6), 0);
    }

    private static void portions() {
        SkyHeirs x = Due.of("person 1 0 0 0 0;person 1 1 1 1 1;person 1 0 0 0 0;person 1 100 11 2 0;person 1 0 0 0 0;"
                + "will 3 4 3;will 3 1 4;will 3 2 4;law 1;");
        Due.is("by will", x.die(3), 3);
        // 100 * 4 / 11 = 36 and 100 * 3 / 11 = 27: 1 is left over; of 2 all is left over
        int[][] due = {{0, 0, 0, 0}, {1 + 36 + 1, 1 + 4, 1 + 2, 1}, {36, 4, 0, 0}, {0, 0, 0, 0}, {27, 3, 0, 0}};
        for (int person = 0; person < 5; person++) {
            for (int part = 0; part < 4; part++) {
                Due.is("sky(" + person + ", " + part + ")", x.sky(person, part), due[person][part]);
            }
        }
        Due.is("by law all others", x.die(1), 3);
        Due.is("the eldest gets what is left over", x.sky(0, 0), 38 / 3 + 38 % 3);
        Due.is("a third", x.sky(2, 0), 36 + 12);
    }

    private static void pawning() {
        SkyHeirs x = Due.of("person 1 10 0 0 5;person 1 1 0 0 0;person 1 0 0 0 7;");
        Due.is("pawn", x.pawn(0, 1, 0, 3), 4);
        Due.is("left", x.sky(0, 0), 7);
        Due.is("pawn all", x.pawn(0, 1, 0, 7), 11);
        Due.is("hasn't so much", x.pawn(0, 1, 0, 1), -1);
        Due.is("hasn't so much", x.pawn(0, 1, 3, 6), -1);
        Due.is("below 1", x.pawn(0, 1, 3, 0), -1);
        Due.is("below 1", x.pawn(0, 1, 3, Integer.MIN_VALUE), -1);
        Due.is("both are one", x.pawn(0, 0, 3, 1), -1);
        x.die(2);
        Due.is("one is dead", x.pawn(2, 0, 3, 1), -1);
        Due.is("the other one is dead", x.pawn(0, 2, 3, 1), -1);
        Due.is("refused", x.count(11), 7);
        Due.is("acts", x.count(7), 3);
        Due.noSuch("pawn(3, 0, 0, 1)", () -> x.pawn(3, 0, 0, 1));
        Due.noSuch("pawn(0, 3, 0, 1)", () -> x.pawn(0, 3, 0, 1));
        Due.noSuch("pawn(0, 0, 4, 1)", () -> x.pawn(0, 0, 4, 1));
        Due.noSuch("pawn(0, 1, -1, 1)", () -> x.pawn(0, 1, -1, 1));
        Due.is("refused", x.count(11), 7);
    }

    private static void days() {
        SkyHeirs x = Due.of("person 1 50 20 0 0;person 1 50 0 0 0;person 2 999 999 0 0;field 1 300 50;field 2 9999 9999;field 3 1 0;");
        Due.is("one day", x.days(1), 0);
        Due.is("sun", x.field(0, 3), 100);
        Due.is("rain", x.field(0, 4), 20);
        Due.is("two days more", x.days(2), 1);
        Due.is("sun", x.field(0, 3), 300);
        Due.is("rain", x.field(0, 4), 60);
        Due.is("seven days more", x.days(7), 1);
        Due.is("sun", x.field(1, 3), 9990);
        Due.is("a hundred days more", x.days(100), 2);
        Due.is("9999 at most", x.field(1, 3), 9999);
        Due.is("9999 at most", x.field(1, 4), 9999);
        Due.is("9999 at most", x.field(0, 3), 9999);
        Due.is("rain", x.field(0, 4), 2200);
        Due.is("nobody there", x.field(2, 3), 0);
        Due.is("days(0)", x.days(0), -1);
        Due.is("days(101)", x.days(101), -1);
        Due.is("days(-1)", x.days(-1), -1);
        Due.is("refused", x.count(11), 3);
        Due.is("acts", x.count(7), 4);
        x.die(2);
        Due.is("by noon alone", x.days(1), 2);
        Due.is("still at most", x.field(1, 3), 9999);
        SkyHeirs y = Due.of("person 3 0 0 0 0;field 3 20 0;");
        y.die(0);
        Due.is("the sun of a noon", y.days(1), 0);
        Due.is("the sun of a noon", y.days(1), 1);
        Due.is("days without fields", new SkyHeirs().days(100), 0);
    }

    /** The land with so many of five acts, each of another kind. */
    private static SkyHeirs acted(int many) {
        SkyHeirs x = Due.of(StateTest.LAND);
        if (many > 0) {
            x.go(0, 4);
        }
        if (many > 1) {
            x.wed(2, 4);
        }
        if (many > 2) {
            x.die(0);
        }
        if (many > 3) {
            x.pawn(1, 2, 1, 5);
        }
        if (many > 4) {
            x.days(3);
        }
        return x;
    }

    private static void undoing() {
        SkyHeirs x = acted(5);
        x.wed(1, 3);
        x.wed(1, 2);
        x.go(2, 11);
        x.see(1, 1);
        for (int left = 5; left >= 0; left--) {
            Due.is("undo", x.undo(), left);
            Due.is("as it was with " + left, shot(x), shot(acted(left)));
        }
        Due.is("none is left", x.undo(), -1);
        Due.is("status stays", x.count(11), 2);
        Due.is("seen stays", x.count(8), 1);
        SkyHeirs y = Due.of(StateTest.LAND);
        Due.is("none", y.undo(), -1);
        Due.is("not counted", y.count(11), 0);
        y.die(4);
        y.die(1);
        y.undo();
        y.undo();
        Due.is("no noon", y.count(6), 0);
    }

    private static void fortyActs() {
        SkyHeirs x = Due.of("person 0 1 1 1 1;");
        for (int i = 1; i <= 45; i++) {
            x.go(0, i % 10);
            Due.is("acts after " + i, x.count(7), Math.min(40, i));
        }
        for (int i = 44; i >= 5; i--) {
            Due.is("undo", x.undo(), i - 5);
            Due.is("place after " + i, x.person(0, 1), i % 10);
        }
        Due.is("no more is kept", x.undo(), -1);
        Due.is("place", x.person(0, 1), 5);
        for (int i = 1; i <= 3; i++) {
            x.go(0, i);
        }
        Due.is("anew", x.undo(), 2);
        Due.is("place", x.person(0, 1), 2);
    }

    /** All that an act may change. */
    static String shot(SkyHeirs x) {
        StringBuilder shot = new StringBuilder();
        int people = x.count(0);
        for (int person = 0; person < people; person++) {
            for (int what : new int[] {0, 1, 6}) {
                shot.append(x.person(person, what)).append(' ');
            }
            for (int part = 0; part < 4; part++) {
                shot.append(x.sky(person, part)).append(' ');
            }
        }
        for (int field = x.count(3) - 1; field >= 0; field--) {
            shot.append(x.field(field, 3)).append(' ').append(x.field(field, 4)).append(' ');
        }
        for (int place = 0; place < 10; place++) {
            shot.append(x.weather(place, 6)).append(' ');
        }
        return shot.toString();
    }
}
