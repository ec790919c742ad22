/** Part 2, who inherits and how much: wills, the law and its bounds, what is left over, what is lost, who is dead. */
public final class InheritTest {
    public static void main(String[] args) {
        willsThenLaw();
        leftOver();
        keptTo999();
        arithmetic();
        tests();
        values();
        withoutLaw();
        nobody();
        theDead();
        above999();
        Due.end("InheritTest");
    }

    private static void sun(SkyHeirs x, int... due) {
        for (int person = 0; person < due.length; person++) {
            Due.is("sun of " + person, x.sky(person, 0), due[person]);
        }
    }

    private static void heirs(SkyHeirs x, int dead, int... due) {
        for (int other = 0; other < due.length; other++) {
            if (other != dead) {
                Due.is("heir(" + dead + ", " + other + ", 0)", x.heir(dead, other, 0), due[other]);
            }
        }
    }

    /** As long as one of a will's heirs is alive the law says nothing. */
    private static void willsThenLaw() {
        String land = "person 5 10 0 0 0;" + "person 5 0 0 0 0;".repeat(3) + "will 0 2 3;will 0 1 1;"
                + "law (number = 3) + (number = 0);";
        SkyHeirs x = Due.of(land);
        heirs(x, 0, 0, 3, 7, 0);
        x.die(1);
        heirs(x, 0, 0, 0, 10, 0);
        x.undo();
        x.die(2);
        heirs(x, 0, 0, 10, 0, 0);
        Due.is("one by will", x.die(0), 1);
        sun(x, 0, 10, 0, 0);
        x.undo();
        x.die(1);
        heirs(x, 0, 0, 0, 0, 10);
        Due.is("one by law", x.die(0), 1);
        sun(x, 0, 0, 0, 10);
        x.undo();
        x.die(3);
        heirs(x, 0, 0, 0, 0, 0);
        int noons = x.count(6);
        Due.is("nobody", x.die(0), 0);
        sun(x, 0, 0, 0, 0);
        Due.is("one more noon", x.count(6), noons + 1);
        // the dead one himself is none of the others, whatever the law gives him
        SkyHeirs y = Due.of("person 5 10 0 0 0;person 5 0 0 0 0;law 1 - number;");
        Due.is("not himself", y.heir(0, 1, 0), 0);
        Due.is("not himself", y.die(0), 0);
    }

    private static void leftOver() {
        String three = "person 1 @ 0 0 0;person 1 0 0 0 0;person 1 0 0 0 0;person 1 0 0 0 0;";
        int[][] due = {{0, 0, 0, 0}, {1, 1, 0, 0}, {2, 2, 0, 0}, {3, 1, 1, 1}, {4, 2, 1, 1}, {5, 3, 1, 1}, {6, 2, 2, 2},
            {998, 334, 332, 332}, {999, 333, 333, 333}};
        for (int[] row : due) {
            String land = three.replace("@", "" + row[0]);
            for (String rule : new String[] {"will 0 3 7;will 0 2 7;will 0 1 7;", "law 7;"}) {
                SkyHeirs x = Due.of(land + rule);
                heirs(x, 0, row);
                Due.is("three inherit", x.die(0), 3);
                sun(x, 0, row[1], row[2], row[3]);
            }
        }
        // the eldest, not the one with the greatest share nor the one who is told first
        SkyHeirs x = Due.of("person 1 1 0 0 0;person 1 10 9 8 7;person 1 0 0 0 0;will 1 2 98;will 1 0 1;");
        int[] parts = {10, 9, 8, 7};
        for (int part = 0; part < 4; part++) {
            int younger = parts[part] * 98 / 99;
            Due.is("part " + part, x.heir(1, 2, part), younger);
            Due.is("part " + part, x.heir(1, 0, part), parts[part] - younger);
        }
        // each part by itself
        SkyHeirs y = Due.of("person 1 3 2 1 0;person 1 0 0 0 0;person 1 0 0 0 0;law 1;");
        int[][] split = {{2, 1}, {1, 1}, {1, 0}, {0, 0}};
        Due.is("two", y.die(0), 2);
        for (int part = 0; part < 4; part++) {
            Due.is("part " + part, y.sky(1, part), split[part][0]);
            Due.is("part " + part, y.sky(2, part), split[part][1]);
        }
    }

    /** 1 has what the law gives, 2 has 500, of 9990: so much for 2 is due for one share of 1 alone. */
    private static void share(String law, int due) {
        SkyHeirs x = Due.of("person 0 999 0 0 0;".repeat(11) + "law (number = 1) * (" + law + ") + (number = 2) * 500;");
        for (int other = 10; other > 1; other--) {
            x.pawn(other, 0, 0, 999);
        }
        Due.is("sun", x.sky(0, 0), 9990);
        Due.is("by " + law, x.heir(0, 2, 0), 9990 * 500 / (due + 500));
        Due.is("who inherit by " + law, x.die(0), due > 0 ? 2 : 1);
    }

    private static void keptTo999() {
        share("0", 0);
        share("1", 1);
        share("0 - 1", 0);
        share("0 - 9999", 0);
        share("998", 998);
        share("999", 999);
        share("1000", 999);
        share("9999", 999);
        share("9999 * 9999", 999);
        // the greatest int, and the least one
        share("2 * 1024 * 1024 * 1024 - 1", 999);
        share("2 * 1024 * 1024 * 1024", 0);
    }

    private static void arithmetic() {
        share("7 + 3 * 2", 13);
        share("7 * 3 + 2", 23);
        share("20 - 3 - 2", 15);
        share("20 - 3 + 2", 19);
        share("100 / 7 / 2", 7);
        share("100 / 7 * 7", 98);
        share("100 * 7 / 7", 100);
        share("7 - (3 - 9)", 13);
        // cut down to 0, not to the lesser one
        share("100 + (0 - 7) / 2", 97);
        share("100 + 7 / (0 - 2)", 97);
        share("100 + (0 - 7) / (0 - 2)", 103);
        share("100 + (0 - 1) / 2", 100);
        share("6 / 7", 0);
        share("7 / 7", 1);
        share("5 / 0", 0);
        share("0 / 0", 0);
        share("0 - 5 / 0 + 8", 8);
        share("(5 / (3 - 3)) = 0", 1);
        share("9999 / 1", 999);
        // ints that wrap
        share("(2 * 1024 * 1024 * 1024) < 0", 1);
        share("(2 * 1024 * 1024 * 1024 - 1) < 0", 0);
        share("(2 * 1024 * 1024 * 1024 - 1 + 1) < 0", 1);
        share("0 - 2 * 1024 * 1024 * 1024 < 0", 1);
        share("(0 - 2 * 1024 * 1024 * 1024 - 1) / 1024 / 1024 / 1024", 1);
        share("4 * 1024 * 1024 * 1024 + 6", 6);
        share("2 * 1024 * 1024 * 1024 / (0 - 1) < 0", 1);
        share("9999 * 9999 * 9999 / 9999 / 9999 = 9999", 0);
    }

    private static void tests() {
        share("5 * (3 < 4)", 5);
        share("5 * (4 < 4)", 0);
        share("5 * (5 < 4)", 0);
        share("5 * (4 = 4)", 5);
        share("5 * (4 = 5)", 0);
        share("5 * (0 - 1 < 0)", 5);
        share("5 * not 0", 0, 3);
        share("5 * (not 0)", 5);
        share("5 * (not 1)", 0);
        share("5 * (not 7)", 0);
        share("5 * (not (0 - 1))", 0);
        share("5 * (not not 7)", 5);
        share("5 * (3 and 4)", 5);
        share("5 * (1 and 1)", 5);
        share("5 * (1 and 2)", 5);
        share("5 * (2 and 1)", 5);
        share("5 * (3 and 0)", 0);
        share("5 * (0 and 3)", 0);
        share("5 * (0 - 1 and 0 - 2)", 5);
        share("5 * (0 or 4)", 5);
        share("5 * (4 or 0)", 5);
        share("5 * (1 or 1)", 5);
        share("5 * (0 - 1 or 0)", 5);
        share("5 * (0 or 0)", 0);
        // what binds: not ahead of and, and ahead of or, < and = ahead of not, sums ahead of tests
        share("5 * (1 or 1 and 0)", 5);
        share("5 * ((1 or 1) and 0)", 0);
        share("5 * (not 1 or 1)", 5);
        share("5 * (not (1 or 1))", 0);
        share("5 * (not 1 and 0)", 0);
        share("5 * (not (1 and 0))", 5);
        share("5 * (not 3 = 4)", 5);
        share("5 * (not 3 < 4)", 0);
        share("5 * (1 + 2 < 2 * 2)", 5);
        share("5 * (3 = 1 + 2)", 5);
        share("5 * (1 = 1 and 2 = 2)", 5);
        share("5 * (2 < 1 or 1 < 2)", 5);
        share("5 * (0 and 0 or 1)", 5);
    }

    /** A word that can't stand behind a sign has a fault. */
    private static void share(String law, int none, int fault) {
        Due.is("share " + none, none, 0);
        Due.is("fault of " + law, Due.tell(new SkyHeirs(), "law " + law + ";"), fault);
    }

    /** What a VALUE is of 1, when 0 dies: of 999 the other one gets 499 by 1, 624 by 0. */
    private static void value(String word, int due, String people) {
        SkyHeirs x = Due.of(people + "law (number = 1) * (3 + 2 * " + word + ") + (number = 2) * 5;");
        Due.is(word + " in " + people, x.heir(0, 2, 0), 999 * 5 / (3 + 2 * due + 5));
    }

    private static void values() {
        String alone = "person 3 999 0 0 0;person 4 0 0 0 0;person 5 0 0 0 0;";
        String born = alone + "child 2 1 3 0 0 0 0;";
        for (String word : new String[] {"child", "adopted", "spouse", "parent", "sibling", "here"}) {
            value(word, 0, alone);
            value(word, 0, born + "wed 1 2;");
        }
        value("number", 1, alone);
        value("here", 1, alone.replace("person 4", "person 3"));
        value("spouse", 1, alone + "wed 0 1;");
        value("spouse", 1, alone + "wed 1 0;");
        value("spouse", 0, alone + "wed 2 0;");
        value("child", 0, alone + "wed 0 1;");
        value("adopted", 1, "person 3 999 0 0 0;adopted 0 4 0 0 0 0;person 5 0 0 0 0;");
        value("child", 0, "person 3 999 0 0 0;adopted 0 4 0 0 0 0;person 5 0 0 0 0;");
        value("parent", 0, "person 3 999 0 0 0;adopted 0 4 0 0 0 0;person 5 0 0 0 0;");
        value("sibling", 0, "person 3 999 0 0 0;adopted 0 4 0 0 0 0;person 5 0 0 0 0;");
        bornOnes();
    }

    /** As value(), but of others than 0 and 1: who has what of dead, heir and third. */
    private static void value(String word, int due, String people, int dead, int heir, int third) {
        SkyHeirs x = Due.of(people + "law (number = " + heir + ") * (3 + 2 * " + word + ") + (number = " + third + ") * 5;");
        x.pawn(third, dead, 0, 999);
        int rest = 999 - 999 * (3 + 2 * due) / (8 + 2 * due);
        int plain = 999 * 5 / (8 + 2 * due);
        Due.is(word + " of " + dead + " and " + heir, x.heir(dead, third, 0), third < heir ? rest : plain);
    }

    private static void bornOnes() {
        // 2, 3 of 0 and 1; 4 adopted by 0; 5 of 1 and 6's other parent 7; 8 has all
        String land = "person 1 0 0 0 0;person 2 0 0 0 0;child 0 1 3 0 0 0 0;child 1 0 4 0 0 0 0;adopted 0 5 0 0 0 0;"
                + "person 6 0 0 0 0;child 1 5 7 0 0 0 0;adopted 2 8 0 0 0 0;person 9 999 0 0 0;";
        value("child", 1, land, 0, 2, 8);
        value("child", 1, land, 0, 3, 8);
        value("child", 1, land, 1, 3, 8);
        value("child", 0, land, 0, 4, 8);
        value("child", 0, land, 2, 0, 8);
        value("adopted", 1, land, 0, 4, 8);
        value("adopted", 0, land, 1, 4, 8);
        value("adopted", 0, land, 0, 2, 8);
        value("adopted", 0, land, 0, 7, 8);
        value("parent", 1, land, 2, 0, 8);
        value("parent", 1, land, 2, 1, 8);
        value("parent", 1, land, 4, 0, 8);
        value("parent", 0, land, 4, 1, 8);
        value("parent", 0, land, 0, 2, 8);
        value("parent", 0, land, 7, 0, 8);
        value("sibling", 1, land, 2, 3, 8);
        value("sibling", 1, land, 3, 2, 8);
        value("sibling", 1, land, 2, 4, 8);
        value("sibling", 1, land, 4, 3, 8);
        value("sibling", 1, land, 2, 6, 8);
        value("sibling", 1, land, 6, 3, 8);
        value("sibling", 0, land, 4, 6, 8);
        value("sibling", 0, land, 2, 7, 8);
        value("sibling", 0, land, 0, 1, 8);
        value("sibling", 0, land, 0, 5, 8);
        value("sibling", 0, land, 2, 0, 8);
    }

    /** One for each child of the dead one, born or adopted; nobody else has anything. */
    private static void withoutLaw() {
        String land = "person 1 9 0 0 0;person 1 0 0 0 0;child 0 1 1 0 0 0 0;child 1 0 2 0 0 0 0;adopted 0 3 0 0 0 0;"
                + "adopted 4 1 0 0 0 0;person 1 0 0 0 0;wed 0 1;";
        SkyHeirs x = Due.of(land);
        heirs(x, 0, 0, 0, 3, 3, 3, 0, 0);
        heirs(Due.of(land + "law child;"), 0, 0, 0, 5, 4, 0, 0, 0);
        heirs(Due.of(land + "law 0;"), 0, 0, 0, 0, 0, 0, 0, 0);
        Due.is("three", x.die(0), 3);
        Due.is("not the parents", x.die(2), 0);
        Due.is("an adopted one of an adopted one", x.heir(4, 5, 0), 3);
        Due.is("not who is there", x.die(6), 0);
    }

    private static void nobody() {
        SkyHeirs x = Due.of("person 3 5 6 7 8;person 4 0 0 0 0;person 3 0 0 0 0;");
        x.go(0, 9);
        Due.is("lost", x.die(0), 0);
        Due.is("a noon where he was", x.weather(9, 6), 1);
        Due.is("not where he had been", x.weather(3, 6), 0);
        Due.is("rain is lost", x.weather(9, 1), 0);
        x.go(1, 9);
        Due.is("lost, having nothing", x.die(1), 0);
        Due.is("one more noon", x.weather(9, 6), 2);
        Due.is("20 sun", x.weather(9, 0), 20);
        Due.is("nobody is left", x.die(2), 0);
        Due.is("all noons", x.count(6), 3);
        SkyHeirs twelve = Due.of("person 7 1 1 1 1;".repeat(12));
        for (int person = 0; person < 12; person++) {
            Due.is("noons", twelve.weather(7, 6), person);
            Due.is("the last line dies out", twelve.die(person), 0);
        }
        Due.is("12 noons", twelve.count(6), 12);
        Due.is("sun", twelve.weather(7, 0), 120);
        Due.is("kind", twelve.weather(7, 4), 0);
        SkyHeirs heir = Due.of("person 3 0 0 0 0;adopted 0 3 0 0 0 0;");
        Due.is("an heir of nothing", heir.die(0), 1);
        Due.is("no noon", heir.count(6), 0);
    }

    /** Who is dead has none, is nowhere, inherits nothing, but stays a parent, a child, a spouse. */
    private static void theDead() {
        String land = "person 1 9 8 7 6;person 1 50 0 0 0;child 0 1 1 4 0 0 0;child 0 1 1 0 0 0 0;person 2 30 0 0 0;"
                + "wed 0 1;will 4 2 5;field 1 1 1;law parent * 2 + sibling + spouse * 3;";
        SkyHeirs x = Due.of(land);
        Due.is("by parents and siblings", x.die(2), 3);
        for (int part = 0; part < 4; part++) {
            Due.is("has none", x.sky(2, part), 0);
        }
        Due.is("is nowhere", x.person(2, 1), -1);
        Due.is("is nowhere", x.weather(1, 5), 3);
        Due.is("isn't alive", x.person(2, 0), 0);
        Due.is("inherits nothing by will", x.heir(4, 2, 0), 0);
        Due.is("inherits nothing by law", x.heir(3, 2, 0), 0);
        Due.is("stays a child", x.kin(0, 2), 1);
        Due.is("has parents", x.person(2, 2), 2);
        x.die(0);
        Due.is("stays a spouse", x.person(1, 6), 0);
        Due.is("stays a spouse", x.person(0, 6), 1);
        Due.is("stays a parent", x.person(3, 3), 0);
        Due.is("stays a parent", x.kin(3, 0), 1);
        Due.is("siblings by a dead one too", x.kin(3, 2), 2);
        Due.is("who is wed with a dead one inherits nothing of him now", x.sky(0, 0), 0);
        SkyHeirs y = Due.of("person 1 0 0 0 0;adopted 0 1 0 0 0 0;adopted 0 1 9 0 0 0;law sibling;");
        y.die(0);
        Due.is("the dead parent is the same", y.heir(2, 1, 0), 9);
    }

    /** A SKY is 0 to 999 at first; what is inherited comes on top, without a bound. */
    private static void above999() {
        SkyHeirs x = Due.of("person 6 999 999 999 999;".repeat(12) + "law number = 0;");
        Due.is("together", x.weather(6, 2), 11988);
        for (int person = 11; person > 0; person--) {
            Due.is("to the eldest", x.heir(person, 0, 3), 999);
            x.die(person);
        }
        for (int part = 0; part < 4; part++) {
            Due.is("all of it", x.sky(0, part), 11988);
            Due.is("all of it", x.weather(6, part), 11988);
        }
        x.undo();
        Due.is("apart", x.front(0, 1), -1 - 4 * (10989 - 999));
        SkyHeirs y = Due.of("person 6 999 0 0 0;".repeat(12) + "law (number = 10) * 999 + (number = 11) * 998;");
        for (int person = 0; person < 9; person++) {
            y.pawn(person, 9, 0, 999);
        }
        Due.is("sun", y.sky(9, 0), 9990);
        Due.is("a great share of much", y.heir(9, 11, 0), (int) (9990L * 998 / 1997));
        Due.is("a great share of much", y.heir(9, 10, 0), 9990 - (int) (9990L * 998 / 1997));
    }
}
