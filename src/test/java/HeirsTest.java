/** Promises 18 to 22: heir, failing, contested, deaths, death; and what a law gives. */
public final class HeirsTest {
    public static void main(String[] args) {
        wills();
        laws();
        values();
        operations();
        failing();
        contested();
        deaths();
        refusedDeaths();
        Due.end("HeirsTest");
    }

    private static void wills() {
        SkyHeirs x = Due.of(StateTest.LAND);
        Due.is("leftover to the eldest", x.heir(0, 2, 0), 67);
        Due.is("a third", x.heir(0, 3, 0), 33);
        Due.is("not the spouse", x.heir(0, 1, 0), 0);
        Due.is("who has no will", x.heir(1, 2, 1), 30);
        Due.is("who has no will", x.heir(1, 3, 1), 30);
        Due.is("did one die now", x.person(0, 0), 1);
        x.die(2);
        Due.is("one of two is alive", x.heir(0, 3, 0), 100);
        Due.is("a dead heir", x.heir(0, 2, 0), 0);
        x.die(3);
        Due.is("wills to the dead count for nothing, no child is alive", x.heir(0, 1, 0), 0);
        Due.is("by will", x.heir(4, 0, 1), 90);
        Due.illegal("both are one", () -> x.heir(0, 0, 0));
        Due.illegal("the first is dead", () -> x.heir(2, 0, 0));
        Due.noSuch("heir(2, 5, 0)", () -> x.heir(2, 5, 0));
        Due.noSuch("heir(5, 0, 0)", () -> x.heir(5, 0, 0));
        Due.noSuch("heir(-1, 0, 0)", () -> x.heir(-1, 0, 0));
        Due.noSuch("heir(0, 0, 4)", () -> x.heir(0, 0, 4));
        Due.noSuch("heir(2, 0, -1)", () -> x.heir(2, 0, -1));
    }

    /** The law gives so much for one. */
    private static void law(String law, int share) {
        SkyHeirs x = Due.of("person 0 999 0 0 0;person 0 0 0 0 0;person 0 0 0 0 0;law (" + law + ") * (number = 1);");
        Due.is("all of it by " + law, x.heir(0, 1, 0), share > 0 ? 999 : 0);
        SkyHeirs y = Due.of("person 0 999 0 0 0;person 0 1 0 0 0;person 0 0 0 0 0;law (number = 1) + (number = 2) * ("
                + law + ");");
        int all = 1 + share;
        Due.is("by " + law, y.heir(0, 2, 0), share == 0 ? 0 : 999 * share / all);
    }

    private static void laws() {
        law("1", 1);
        law("0", 0);
        law("0 - 5", 0);
        law("998", 998);
        law("999", 999);
        law("1000", 999);
        law("9999 * 9999", 999);
        SkyHeirs x = Due.of("person 0 100 0 0 0;adopted 0 0 0 0 0 0;person 0 0 0 0 0;law 0;");
        Due.is("a law that gives nothing", x.heir(0, 1, 0), 0);
        Due.is("lost", x.die(0), 0);
    }

    private static void values() {
        // 2 and 3 are born to 0 and 1, 4 is adopted by 2, 5 is wed to 2, 6 is born to 1 and 5
        String land = "person 1 0 0 0 0;person 2 0 0 0 0;child 0 1 1 999 0 0 0;child 1 0 1 0 0 0 0;adopted 2 2 0 0 0 0;"
                + "person 2 0 0 0 0;wed 5 2;child 5 1 2 0 0 0 0;adopted 0 2 0 0 0 0;child 5 2 1 0 0 0 0;law ";
        inherit(land + "child;", 2, 1 << 8);
        inherit(land + "adopted;", 2, 1 << 4);
        inherit(land + "child;", 0, 1 << 2 | 1 << 3);
        inherit(land + "adopted;", 0, 1 << 7);
        inherit(land + "spouse;", 2, 1 << 5);
        inherit(land + "spouse;", 5, 1 << 2);
        inherit(land + "spouse;", 0, 0);
        inherit(land + "parent;", 2, 1 | 1 << 1);
        inherit(land + "parent;", 4, 1 << 2);
        inherit(land + "parent;", 0, 0);
        inherit(land + "sibling;", 2, 1 << 3 | 1 << 6 | 1 << 7);
        inherit(land + "sibling;", 0, 0);
        inherit(land + "sibling;", 7, 1 << 2 | 1 << 3);
        inherit(land + "number = 4;", 2, 1 << 4);
        inherit(land + "number;", 0, 0b111111110);
        inherit(land + "here;", 2, 1 | 1 << 3 | 1 << 8);
        inherit(land.substring(0, land.length() - 4), 2, 1 << 4 | 1 << 8);
    }

    private static void inherit(String text, int dead, int due) {
        SkyHeirs x = Due.of(text);
        x.pawn(2, dead, 0, 900);
        int heirs = 0;
        for (int other = 0; other < x.count(0); other++) {
            if (other != dead && x.heir(dead, other, 0) > 0) {
                heirs |= 1 << other;
            }
        }
        Due.is("who inherits of " + dead + " in " + text, heirs, due);
        Due.is("how many", x.die(dead), Integer.bitCount(due));
    }

    private static void operations() {
        law("7 + 3 * 2", 13);
        law("(7 + 3) * 2", 20);
        law("20 - 3 - 2", 15);
        law("100 / 7 / 2", 7);
        law("100 / 7 * 2", 28);
        law("5 / 0", 0);
        law("5 / 0 + 3", 3);
        law("20 + (0 - 7) / 2", 17);
        law("3 < 4", 1);
        law("4 < 4", 0);
        law("5 < 4", 0);
        law("4 = 4", 1);
        law("5 = 4", 0);
        law("(5 < 6) + (6 = 6)", 2);
        law("2 + 2 = 4", 1);
        law("not 0", 1);
        law("not 5", 0);
        law("not not 5", 1);
        law("not 3 < 2", 1);
        law("5 and 7", 1);
        law("5 and 0", 0);
        law("0 or 7", 1);
        law("0 or 0", 0);
        law("(5 or 0) + (2 and 3)", 2);
        law("1 or 0 and 0", 1);
        law("(1 or 0) and 0", 0);
        law("0 - 5 and 1", 1);
        // 9999 ^ 3 wraps to a number below 0: 999700029999 mod 2 ^ 32
        int wrapped = 9999 * 9999 * 9999;
        law("9999 * 9999 * 9999 < 0", wrapped < 0 ? 1 : 0);
        law("9999 * 9999 * 9999 / 9999 / 9999 = 9999", wrapped / 9999 / 9999 == 9999 ? 1 : 0);
        // the least int by -1 stays the least
        law("(0 - 2048 * 1024 * 1024) / (0 - 1) < 0", 1);
    }

    private static void failing() {
        String four = "person 0 1 1 1 1;".repeat(4);
        SkyHeirs x = Due.of(four + "will 0 1 1;will 0 2 1;will 3 0 5;will 1 3 1;");
        Due.is("none", x.failing(), 0);
        x.die(1);
        Due.is("one of two is alive", x.failing(), 0);
        x.die(2);
        Due.is("none to anybody alive", x.failing(), 1);
        x.die(0);
        Due.is("the dead owner is none, another is", x.failing(), 8);
        x.undo();
        Due.is("undone", x.failing(), 1);
        Due.is("a new object", new SkyHeirs().failing(), 0);
    }

    private static void contested() {
        SkyHeirs x = Due.of(StateTest.LAND + "law child*3+spouse*2+sibling;");
        Due.is("by the spouse", x.contested(0), 2);
        Due.is("without wills", x.contested(1), 0);
        Due.is("nobody by law", x.contested(4), 0);
        x.die(0);
        Due.is("the dead", x.contested(0), 0);
        Due.noSuch("contested(5)", () -> x.contested(5));
        Due.noSuch("contested(-1)", () -> x.contested(-1));
        SkyHeirs y = Due.of("person 0 10 10 10 9;person 0 0 0 0 0;person 0 0 0 0 0;person 0 0 0 0 0;"
                + "will 0 3 4;will 0 1 2;will 0 2 2;law number;");
        // by will 1 gets 12, 2 gets 8, 3 gets 19 with what is left over; by law 8, 12 and 19
        Due.is("of all parts together", y.contested(0), 1 << 2);
        y.die(2);
        Due.is("others", y.contested(0), 1 << 3);
    }

    private static void deaths() {
        SkyHeirs x = Due.of("person 0 10 0 0 0;person 0 20 5 0 0;person 0 40 0 0 0;person 0 40 0 0 0;person 0 7 0 0 0;"
                + "will 2 0 1;will 3 1 1;will 1 0 1;will 4 3 1;law 0;");
        Due.is("none is needed", x.deaths(0, 0, 10), 0);
        Due.noSuch("death(0) of none", () -> x.death(0));
        Due.is("one", x.deaths(0, 0, 11), 1);
        Due.is("the first", x.death(0), 1);
        Due.is("one", x.deaths(0, 0, 50), 1);
        Due.is("the second", x.death(0), 2);
        Due.noSuch("death(1)", () -> x.death(1));
        Due.is("two", x.deaths(0, 0, 70), 2);
        Due.is("first", x.death(0), 1);
        Due.is("then", x.death(1), 2);
        Due.is("in their order", x.deaths(0, 0, 110), 3);
        Due.is("first", x.death(0), 2);
        Due.is("then", x.death(1), 3);
        Due.is("last", x.death(2), 1);
        Due.noSuch("death(3)", () -> x.death(3));
        Due.noSuch("death(-1)", () -> x.death(-1));
        Due.is("none by three", x.deaths(0, 0, 111), -1);
        Due.is("what is kept stays", x.death(1), 3);
        Due.is("rain", x.deaths(0, 1, 5), 1);
        Due.is("rain", x.death(0), 1);
        Due.is("not of himself, nobody leaves him anything", x.deaths(2, 0, 41), -1);
        Due.is("all stays", x.sky(0, 0), 10);
        Due.is("all stay alive", x.count(1), 5);
        Due.is("no act", x.count(7), 0);
        x.die(2);
        x.die(3);
        Due.is("of those alive", x.deaths(0, 0, 110), 1);
        Due.is("the last one", x.death(0), 1);
        SkyHeirs y = Due.of("person 0 0 0 0 0;person 0 9 0 0 0;person 0 9 0 0 0;law number = 0;");
        Due.is("by law", y.deaths(0, 0, 18), 2);
        Due.is("first", y.death(0), 1);
        Due.is("then", y.death(1), 2);
        Due.is("not enough people", y.deaths(0, 0, 19), -1);
    }

    private static void refusedDeaths() {
        SkyHeirs x = Due.of("person 0 10 0 0 0;person 0 20 0 0 0;");
        Due.illegal("below 1", () -> x.deaths(0, 0, 0));
        Due.illegal("more than 9999", () -> x.deaths(0, 0, 10000));
        Due.is("9999", x.deaths(0, 0, 9999), -1);
        Due.noSuch("no such person", () -> x.deaths(2, 0, 0));
        Due.noSuch("no such person", () -> x.deaths(-1, 0, 1));
        Due.noSuch("no such part", () -> x.deaths(0, 4, 0));
        Due.noSuch("no such part", () -> x.deaths(0, -1, 1));
        x.die(0);
        Due.illegal("dead", () -> x.deaths(0, 0, 1));
        Due.noSuch("none is kept", () -> x.death(0));
    }
}
