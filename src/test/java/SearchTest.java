/** Part 3, from both sides: FAILING, CONTESTED, KIN, THE FEWEST DEATHS, WHERE ALL SHOULD BE, SEATINGS, and rows that are kept. */
public final class SearchTest {
    private static final String ONE = "person 1 1 1 1 1;";

    public static void main(String[] args) {
        failing();
        contested();
        kin();
        howMuch();
        howManyDeaths();
        firstAsARow();
        notOfHimself();
        mostFields();
        arrangeSpent();
        arrangeRow();
        tables();
        besideEachOther();
        eldestAlive();
        rowsByThemselves();
        Due.end("SearchTest");
    }

    private static void failing() {
        SkyHeirs x = Due.of(ONE.repeat(12) + "will 0 1 1;will 5 1 1;will 11 1 1;will 11 2 1;will 2 0 1;will 3 2 1;");
        Due.is("none", x.failing(), 0);
        x.die(1);
        Due.is("two whose one heir is dead", x.failing(), 1 | 1 << 5);
        x.die(2);
        Due.is("and whose two are, and another one", x.failing(), 1 | 1 << 3 | 1 << 5 | 1 << 11);
        x.die(0);
        Due.is("a dead one is no owner", x.failing(), 1 << 3 | 1 << 5 | 1 << 11);
        x.die(11);
        x.die(3);
        x.die(5);
        Due.is("all are dead", x.failing(), 0);
        x.undo();
        Due.is("one is back", x.failing(), 1 << 5);
        Due.is("without wills", Due.of(ONE.repeat(3)).failing(), 0);
        Due.is("nobody", new SkyHeirs().failing(), 0);
    }

    private static void contested() {
        // by law 0 and 3 get all, by will 2
        String land = "person 1 0 0 0 0;person 1 @;person 1 0 0 0 0;person 1 0 0 0 0;will 1 2 9;law (number = 0) + (number = 3);";
        for (String sky : new String[] {"2 0 0 0", "0 2 0 0", "0 0 2 0", "0 0 0 2"}) {
            Due.is("by two, of " + sky, Due.of(land.replace("@", sky)).contested(1), 0b1001);
        }
        for (String sky : new String[] {"1 0 0 0", "0 1 0 0", "0 0 1 0", "0 0 0 1"}) {
            Due.is("by the eldest alone, of " + sky, Due.of(land.replace("@", sky)).contested(1), 0b0001);
        }
        Due.is("of nothing", Due.of(land.replace("@", "0 0 0 0")).contested(1), 0);
        SkyHeirs x = Due.of(land.replace("@", "9 9 9 9"));
        Due.is("who has no will", x.contested(0), 0);
        x.die(3);
        Due.is("those alive", x.contested(1), 0b0001);
        x.die(2);
        Due.is("his wills come to nothing", x.contested(1), 0);
        x.undo();
        x.die(1);
        Due.is("the dead", x.contested(1), 0);
        // more by law of one part, less of another, as much together: 3 + 1 against 2 + 2
        SkyHeirs y = Due.of("person 1 0 0 0 0;person 1 0 0 0 0;person 1 4 4 0 0;will 2 0 1;will 2 1 1;law 1;");
        Due.is("as much", y.contested(2), 0);
        SkyHeirs z = Due.of("person 1 0 0 0 0;person 1 0 0 0 0;person 1 4 4 4 3;will 2 0 2;will 2 1 3;law (number + 2);");
        // by will 0 gets 1, 1, 1, 1 and what is left over (2, 2, 2, 2), by law 2 of 5 too
        Due.is("as much by other numbers", z.contested(2), 0);
        SkyHeirs more = Due.of("person 1 0 0 0 0;person 1 0 0 0 0;person 1 9 9 9 9;will 2 0 2;will 2 1 3;law 1;");
        Due.is("more", more.contested(2), 0b01);
        SkyHeirs less = Due.of("person 1 0 0 0 0;person 1 0 0 0 0;person 1 9 9 9 9;will 2 0 3;will 2 1 2;law 1;");
        Due.is("less", less.contested(2), 0b10);
        // nobody by law: it would be lost
        Due.is("lost by law", Due.of(ONE + ONE + "will 0 1 1;").contested(0), 0);
        StringBuilder all = new StringBuilder(ONE.repeat(11) + "person 1 99 0 0 0;will 11 0 1;law 1;");
        Due.is("by all but one", Due.of(all.toString()).contested(11), 0b11111111110);
        // at most so much is due to each that the one with the will may get no more
        Due.is("not by himself", Due.of("person 1 9 9 9 9;" + ONE + "will 0 1 1;law 1;").contested(0), 0);
    }

    private static void kin() {
        StringBuilder line = new StringBuilder(ONE.repeat(12));
        for (int i = 0; i < 11; i += 2) {
            line.append("wed ").append(i).append(' ').append(i + 1).append(';');
        }
        SkyHeirs couples = Due.of(line.toString());
        for (int other = 0; other < 12; other++) {
            Due.is("six couples", couples.kin(4, other), other == 4 ? 0 : other == 5 ? 1 : -1);
        }
        // 0 .. 11 in one line, by turns wed and adopted
        StringBuilder chain = new StringBuilder(ONE);
        for (int i = 1; i < 12; i++) {
            chain.append(i % 2 == 1 ? ONE : "adopted " + (i - 1) + " 1 1 1 1 1;");
        }
        for (int i = 0; i < 11; i += 2) {
            chain.append("wed ").append(i).append(' ').append(i + 1).append(';');
        }
        SkyHeirs x = Due.of(chain.toString());
        for (int one = 0; one < 12; one++) {
            for (int other = 0; other < 12; other++) {
                Due.is("kin(" + one + ", " + other + ")", x.kin(one, other), Math.abs(one - other));
            }
        }
        SkyHeirs y = Due.of(chain.toString());
        for (int person = 0; person < 12; person++) {
            y.die(person);
        }
        Due.is("all are dead", y.kin(0, 11), 11);
        Due.is("the dead to himself", y.kin(7, 7), 0);
        // the fewest: a ring of six
        SkyHeirs ring = Due.of(ONE + "adopted 0 1 1 1 1 1;adopted 1 1 1 1 1 1;adopted 2 1 1 1 1 1;adopted 3 1 1 1 1 1;"
                + "adopted 4 1 1 1 1 1;wed 0 5;");
        int[] due = {0, 1, 2, 3, 2, 1};
        for (int other = 0; other < 6; other++) {
            Due.is("round a ring", ring.kin(0, other), due[other]);
            Due.is("round a ring, back", ring.kin(other, 0), due[other]);
        }
        Due.is("parents by their child", Due.of(ONE + ONE + "child 0 1 1 1 1 1 1;").kin(0, 1), 2);
        Due.is("siblings", Due.of(ONE + ONE + "child 0 1 1 1 1 1 1;adopted 1 1 1 1 1 1;").kin(2, 3), 2);
    }

    private static void howMuch() {
        SkyHeirs x = Due.of("person 0 10 0 0 0;person 0 20 0 0 0;will 1 0 1;");
        Due.is("1", x.deaths(0, 0, 1), 0);
        Due.is("just what he has", x.deaths(0, 0, 10), 0);
        Due.is("one more", x.deaths(0, 0, 11), 1);
        Due.is("all there is", x.deaths(0, 0, 30), 1);
        Due.is("one more", x.deaths(0, 0, 31), -1);
        Due.is("the last one", x.death(0), 1);
        Due.is("rain there isn't", x.deaths(0, 1, 1), -1);
        SkyHeirs y = Due.of("person 0 999 0 0 7;".repeat(12) + "law number = 0;");
        for (int person = 1; person < 11; person++) {
            y.pawn(person, 0, 0, 999);
        }
        Due.is("pawned", y.sky(0, 0), 10989);
        Due.is("9999", y.deaths(0, 0, 9999), 0);
        y.pawn(0, 1, 0, 990);
        Due.is("just 9999", y.deaths(0, 0, 9999), 0);
        y.pawn(0, 1, 0, 1);
        Due.is("one is missing", y.deaths(0, 0, 9999), 1);
        Due.is("the first", y.death(0), 1);
        Due.illegal("10000", () -> y.deaths(0, 0, 10000));
        Due.illegal("0", () -> y.deaths(0, 0, 0));
        Due.is("cold", y.deaths(0, 3, 28), 3);
        Due.is("cold", y.deaths(0, 3, 29), -1);
    }

    private static void howManyDeaths() {
        SkyHeirs x = Due.of("person 0 0 0 0 0;" + "person 0 10 0 0 0;".repeat(5) + "law number = 0;");
        int[][] due = {{1, 1}, {10, 1}, {11, 2}, {20, 2}, {21, 3}, {30, 3}, {31, -1}, {50, -1}};
        for (int[] row : due) {
            Due.is("deaths for " + row[0], x.deaths(0, 0, row[0]), row[1]);
            int kept = row[1] < 0 ? 3 : row[1];
            for (int i = 0; i < kept; i++) {
                Due.is("death(" + i + ")", x.death(i), i + 1);
            }
            Due.noSuch("death(" + kept + ")", () -> x.death(kept));
        }
        Due.is("three others", x.count(1), 6);
        Due.is("nobody died", x.sky(0, 0), 0);
        SkyHeirs alone = Due.of(ONE);
        Due.is("alone", alone.deaths(0, 0, 1), 0);
        Due.is("alone", alone.deaths(0, 0, 2), -1);
        SkyHeirs two = Due.of("person 0 0 0 0 0;person 0 5 0 0 0;law 1;");
        Due.is("the one other", two.deaths(0, 0, 5), 1);
        Due.is("no second one", two.deaths(0, 0, 6), -1);
    }

    private static void firstAsARow() {
        // 3 leaves all to 1, 1 to 0; 2 too leaves all to 1
        SkyHeirs x = Due.of("person 0 0 0 0 0;person 0 1 0 0 0;person 0 4 0 0 0;person 0 4 0 0 0;"
                + "will 1 0 1;will 2 1 1;will 3 1 1;law 0;");
        Due.is("one behind the other", x.deaths(0, 0, 5), 2);
        Due.is("the first of two rows", x.death(0), 2);
        Due.is("then", x.death(1), 1);
        Due.is("all", x.deaths(0, 0, 9), 3);
        int[] due = {2, 3, 1};
        for (int i = 0; i < 3; i++) {
            Due.is("death(" + i + ")", x.death(i), due[i]);
        }
        x.die(2);
        Due.is("of those alive", x.deaths(0, 0, 9), 2);
        Due.is("first", x.death(0), 3);
        Due.is("then", x.death(1), 1);
        // a will that comes to nothing by a death opens the law's way
        SkyHeirs y = Due.of("person 0 0 0 0 0;person 0 0 0 0 0;person 0 9 0 0 0;will 2 1 1;law number = 0;");
        Due.is("the heir first", y.deaths(0, 0, 9), 2);
        Due.is("first", y.death(0), 1);
        Due.is("then", y.death(1), 2);
        Due.is("the heir himself", y.deaths(1, 0, 9), 1);
        Due.is("first", y.death(0), 2);
        // a death may be in a row that has no part in it, if it comes first: not, for fewer are enough
        SkyHeirs z = Due.of("person 0 9 0 0 0;person 0 9 0 0 0;person 0 0 0 0 0;law number = 2;");
        Due.is("two", z.deaths(2, 0, 18), 2);
        Due.is("the elder first", z.death(0), 0);
        Due.is("one", z.deaths(2, 0, 9), 1);
        Due.is("the eldest", z.death(0), 0);
        Due.noSuch("no second", () -> z.death(1));
    }

    private static void notOfHimself() {
        SkyHeirs x = Due.of("person 0 9 0 0 0;person 0 0 0 0 0;law 1;");
        Due.is("his own death brings nothing", x.deaths(0, 0, 10), -1);
        Due.is("the other one's", x.deaths(1, 0, 9), 1);
        Due.is("is 0", x.death(0), 0);
        // with three, of whom one is dead already: none behind his death again
        SkyHeirs y = Due.of("person 0 9 0 0 0;person 0 5 0 0 0;person 0 5 0 0 0;law number = 0;");
        y.die(1);
        Due.is("had it", y.deaths(0, 0, 14), 0);
        Due.is("another", y.deaths(0, 0, 15), 1);
        Due.is("who is alive", y.death(0), 2);
        Due.illegal("dead himself", () -> y.deaths(1, 0, 1));
    }

    private static void mostFields() {
        // just enough, one too few, of sun and of rain
        int[][] due = {{30, 9, 1}, {31, 9, 0}, {30, 10, 0}, {0, 0, 1}, {1, 1, 1}};
        for (int[] row : due) {
            SkyHeirs x = Due.of("person 7 10 4 0 0;person 7 20 5 0 0;field 3 " + row[0] + " " + row[1] + ";");
            Due.is("fields for " + row[0] + ", " + row[1], x.arrange(), row[2]);
            int together = row[2] == 1 && row[0] > 1 ? 0 : -1;
            Due.is("post(0)", x.post(0), together);
            Due.is("post(1)", x.post(1), row[0] == 1 ? 0 : together);
        }
        // noons count, what was got doesn't
        SkyHeirs x = Due.of("person 3 0 0 0 0;person 4 5 5 0 0;field 3 10 0;field 4 5 5;field 5 5 5;law 0;");
        Due.is("one of 4 and 5", x.arrange(), 1);
        Due.is("the first of both", x.post(1), 1);
        x.days(9);
        Due.is("4 has enough already", x.field(1, 5), 1);
        Due.is("by the day alone", x.arrange(), 1);
        Due.is("the first of both", x.post(1), 1);
        x.die(0);
        Due.is("a noon's 10 sun", x.arrange(), 2);
        Due.is("the first of both", x.post(1), 1);
        x.undo();
        x.go(0, 5);
        x.die(0);
        Due.is("a noon's 10 sun of 5, elsewhere", x.arrange(), 1);
        // where all are doesn't matter
        x.go(1, 9);
        Due.is("wherever he is", x.arrange(), 1);
    }

    private static void arrangeSpent() {
        String four = "field 1 0 0;field 2 0 0;field 3 0 0;field 4 0 0;";
        int[] people = {0, 1, 5, 6, 7, 12};
        for (int many : people) {
            Due.is(many + " people", Due.of(ONE.repeat(many) + four).arrange(), many > 6 ? -2 : 4);
            Due.is(many + " people, 5 fields", Due.of(ONE.repeat(many) + four + "field 5 0 0;").arrange(), -2);
            Due.is(many + " people, no field", Due.of(ONE.repeat(many)).arrange(), many > 6 ? -2 : 0);
        }
        Due.is("6 fields", Due.of(four + "field 5 0 0;field 6 0 0;").arrange(), -2);
        SkyHeirs x = Due.of(ONE.repeat(8) + four);
        x.die(0);
        Due.is("7 are alive", x.arrange(), -2);
        x.die(7);
        Due.is("6 are alive", x.arrange(), 4);
        Due.noSuch("0 wasn't alive", () -> x.post(0));
        Due.noSuch("7 wasn't alive", () -> x.post(7));
        for (int person = 1; person < 7; person++) {
            Due.is("none is needed", x.post(person), -1);
        }
    }

    private static void arrangeRow() {
        // none ahead of field 0, field 0 ahead of 1; the eldest counts most
        SkyHeirs x = Due.of("person 0 5 0 0 0;person 0 5 0 0 0;person 0 5 0 0 0;field 1 5 0;field 2 5 0;");
        Due.is("both", x.arrange(), 2);
        int[] due = {-1, 0, 1};
        for (int person = 0; person < 3; person++) {
            Due.is("post(" + person + ")", x.post(person), due[person]);
        }
        SkyHeirs y = Due.of("person 0 6 0 0 0;person 0 4 0 0 0;person 0 5 0 0 0;field 1 5 0;field 2 6 0;field 3 9 0;");
        Due.is("two of three", y.arrange(), 2);
        int[] then = {0, 1, 1};
        for (int person = 0; person < 3; person++) {
            Due.is("post(" + person + ")", y.post(person), then[person]);
        }
        // all six on four fields, the last row that there is
        SkyHeirs z = Due.of("person 0 1 0 0 0;".repeat(6) + "field 1 9 9;field 2 9 9;field 3 9 9;field 4 6 0;");
        Due.is("one", z.arrange(), 1);
        for (int person = 0; person < 6; person++) {
            Due.is("post(" + person + ")", z.post(person), 3);
        }
        Due.noSuch("post(6)", () -> z.post(6));
        z.die(5);
        Due.is("of 5 none", z.arrange(), 0);
        for (int person = 0; person < 5; person++) {
            Due.is("the first row that there is", z.post(person), -1);
        }
        Due.noSuch("post(5)", () -> z.post(5));
    }

    private static void tables() {
        int[] due = {-2, -2, -2, 2, 6, 24, 120, 720, -2, -2, -2, -2, -2};
        SkyHeirs x = Due.of(ONE.repeat(12));
        for (int alive = 12; alive >= 0; alive--) {
            Due.is(alive + " are alive", x.seatings(), due[alive]);
            int first = 12 - alive;
            if (due[alive] > 0) {
                for (int i = 0; i < alive; i++) {
                    Due.is("seat(" + i + ")", x.seat(i), first + i);
                }
                Due.noSuch("seat(" + alive + ")", () -> x.seat(12 - first));
            } else if (alive < 3) {
                Due.is("what is kept stays", x.seat(2), 11);
            } else {
                Due.noSuch("none is kept", () -> x.seat(0));
            }
            if (alive > 0) {
                x.die(first);
            }
        }
    }

    private static void besideEachOther() {
        // two who are a front, of three: nobody can part them
        Due.is("three", Due.of("person 0 9 0 0 0;person 0 5 0 0 0;person 0 0 0 0 0;front 9;").seatings(), 0);
        Due.is("three, one less", Due.of("person 0 9 0 0 0;person 0 5 0 0 0;person 0 1 0 0 0;front 9;").seatings(), 2);
        // of four: 0 and 3 must sit across
        SkyHeirs x = Due.of("person 0 9 0 0 0;person 0 5 0 0 0;person 0 5 0 0 0;person 0 0 0 0 0;front 9;");
        Due.is("four", x.seatings(), 2);
        int[] due = {0, 1, 3, 2};
        for (int i = 0; i < 4; i++) {
            Due.is("seat(" + i + ")", x.seat(i), due[i]);
        }
        // 0 and the last one beside each other are a front
        SkyHeirs y = Due.of("person 0 9 0 0 0;person 0 5 0 0 0;person 0 4 0 0 0;person 0 0 0 0 0;person 0 5 0 0 0;front 9;");
        Due.is("five", y.seatings(), 12);
        int[] then = {0, 1, 2, 3, 4};
        for (int i = 0; i < 5; i++) {
            Due.is("seat(" + i + ")", y.seat(i), then[i]);
        }
        SkyHeirs z = Due.of("person 0 9 0 0 0;person 0 5 0 0 0;person 0 5 0 0 0;person 0 5 0 0 0;person 0 0 0 0 0;front 9;");
        Due.is("five", z.seatings(), 12);
        int[] last = {0, 1, 2, 4, 3};
        for (int i = 0; i < 5; i++) {
            Due.is("seat(" + i + ")", z.seat(i), last[i]);
        }
        z.pawn(1, 0, 0, 5);
        z.pawn(2, 0, 0, 5);
        z.pawn(3, 0, 0, 5);
        Due.is("all are a front of 0", z.seatings(), 0);
        Due.is("what is kept stays", z.seat(3), 4);
    }

    /** The first is the eldest of those alive; the last sits beside him, not beside a dead elder one. */
    private static void eldestAlive() {
        SkyHeirs x = Due.of("person 0 0 0 0 0;person 0 20 0 0 0;person 0 20 0 0 0;person 0 20 0 0 0;front 20;law 0;");
        Due.is("0 is a front of all", x.seatings(), 0);
        x.die(0);
        Due.is("nobody else is", x.seatings(), 2);
        Due.is("the eldest", x.seat(0), 1);
        SkyHeirs y = Due.of("person 0 0 0 0 0;person 0 9 0 0 0;person 0 5 0 0 0;person 0 0 0 0 0;front 9;law 0;");
        Due.is("1 beside 2 alone", y.seatings(), 0);
        y.die(0);
        Due.is("1 and 3 are a front", y.seatings(), 0);
        SkyHeirs z = Due.of("person 0 9 0 0 0;person 0 1 0 0 0;person 0 5 0 0 0;person 0 5 0 0 0;person 0 10 0 0 0;front 9;law 0;");
        z.die(0);
        Due.is("1 and 4 across", z.seatings(), 2);
        int[] due = {1, 2, 4, 3};
        for (int i = 0; i < 4; i++) {
            Due.is("seat(" + i + ")", z.seat(i), due[i]);
        }
    }

    /** Each of the three rows is kept by itself, and only a new one of its own kind takes its place. */
    private static void rowsByThemselves() {
        SkyHeirs x = Due.of("person 0 0 5 0 0;person 0 5 0 0 0;person 0 5 0 0 0;field 1 5 0;law number = 0;");
        Due.is("deaths", x.deaths(0, 0, 10), 2);
        Due.noSuch("no row of posts", () -> x.post(0));
        Due.noSuch("no row of seats", () -> x.seat(0));
        Due.is("arrange", x.arrange(), 1);
        Due.noSuch("no row of seats", () -> x.seat(0));
        Due.is("seatings", x.seatings(), 2);
        rows(x, 2, 0, 2);
        Due.is("none", x.deaths(0, 0, 11), -1);
        x.die(2);
        Due.is("spent", x.seatings(), -2);
        rows(x, 2, 0, 2);
        Due.is("another row", x.arrange(), 1);
        Due.is("post(0)", x.post(0), -1);
        Due.is("post(1)", x.post(1), 0);
        Due.noSuch("post(2)", () -> x.post(2));
        Due.is("death(1)", x.death(1), 2);
        Due.is("seat(2)", x.seat(2), 2);
        Due.is("none is needed", x.deaths(0, 0, 1), 0);
        Due.noSuch("an empty row", () -> x.death(0));
        Due.is("seat(2)", x.seat(2), 2);
        Due.is("post(1)", x.post(1), 0);
    }

    private static void rows(SkyHeirs x, int lastDeath, int post, int lastSeat) {
        Due.is("death(1)", x.death(1), lastDeath);
        Due.is("post(2)", x.post(2), post);
        Due.is("seat(2)", x.seat(2), lastSeat);
    }
}
