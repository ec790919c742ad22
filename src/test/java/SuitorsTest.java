/** Promises 30 and 31: suitors, century. */
public final class SuitorsTest {
    public static void main(String[] args) {
        resting();
        ripeAndNoon();
        refusedSuitors();
        centuries();
        drawn();
        Due.end("SuitorsTest");
    }

    private static void suitors(SkyHeirs x, int one, int other, int many, int first) {
        Due.is("suitors(" + one + ", " + other + ", 0)", x.suitors(one, other, 0), many);
        Due.is("suitors(" + one + ", " + other + ", 1)", x.suitors(one, other, 1), first);
    }

    private static void resting() {
        SkyHeirs x = Due.of(StateTest.LAND);
        suitors(x, 1, 3, 1, 0);
        // without 0 there are 0, 10 and 0 with 5 each: who is alone on 1 has 15, both there 10, elsewhere 5
        suitors(x, 0, 1, 1, 11);
        SkyHeirs y = Due.of("person 0 0 0 0 0;person 0 0 0 0 0;person 4 10 0 0 0;person 5 10 0 0 0;"
                + "field 3 9 9;field 4 9 9;field 5 9 9;");
        suitors(y, 0, 1, 2, 12);
        suitors(y, 1, 0, 2, 12);
        suitors(y, 0, 2, 1, 22);
        SkyHeirs none = Due.of("person 0 1 0 0 0;person 0 1 0 0 0;");
        suitors(none, 0, 1, 0, -1);
        SkyHeirs one = Due.of("person 0 1 0 0 0;person 0 1 0 0 0;field 0 5 5;");
        suitors(one, 0, 1, 1, 0);
        SkyHeirs odd = Due.of("person 9 0 0 0 0;person 9 0 0 0 0;person 0 5 0 0 0;person 1 2 0 0 0;field 0 5 5;field 1 5 5;");
        // 5 halved is 2, as much as the 2 of the other place: all couples but (1, 1) rest
        suitors(odd, 0, 1, 3, 0);
    }

    private static void ripeAndNoon() {
        SkyHeirs x = Due.of("person 1 5 0 0 0;person 8 0 0 0 0;person 9 0 0 0 0;person 2 0 0 0 0;"
                + "field 1 5 0;field 2 7 0;law 0;");
        // 5 + 5 against 0 + 5: both there have 2 + 5
        suitors(x, 1, 2, 1, 0);
        x.days(1);
        // ripe: 5 alone, 2 for both; 5 on the other one
        suitors(x, 1, 2, 3, 1);
        x.die(3);
        // a noon: 10 + 5 alone, 5 + 5 for both on the second
        suitors(x, 1, 2, 1, 11);
        x.die(0);
        // 10 alone or 5 for both on the first, 15 or 10 on the second
        suitors(x, 1, 2, 3, 1);
    }

    private static void refusedSuitors() {
        SkyHeirs x = Due.of("person 0 1 0 0 0;person 0 1 0 0 0;person 0 1 0 0 0;field 0 1 1;");
        Due.noSuch("suitors(0, 3, 0)", () -> x.suitors(0, 3, 0));
        Due.noSuch("suitors(-1, 0, 0)", () -> x.suitors(-1, 0, 0));
        Due.noSuch("suitors(0, 0, 2)", () -> x.suitors(0, 0, 2));
        Due.noSuch("suitors(0, 0, -1)", () -> x.suitors(0, 0, -1));
        Due.illegal("suitors(0, 0, 0)", () -> x.suitors(0, 0, 0));
        x.die(2);
        Due.illegal("suitors(0, 2, 1)", () -> x.suitors(0, 2, 1));
        Due.illegal("suitors(2, 0, 1)", () -> x.suitors(2, 0, 1));
    }

    private static void centuries() {
        SkyHeirs x = Due.of(StateTest.LAND);
        String before = ActsTest.shot(x);
        Due.is("no year", x.century(5, 0, 0), 5);
        Due.is("no year", x.century(5, 0, 1), 0);
        Due.is("no year", x.century(5, 0, 2), 0);
        for (int seed = -100; seed < 100; seed++) {
            x.century(seed * 7919, 60, 0);
        }
        Due.is("all stays", ActsTest.shot(x), before);
        Due.is("no act", x.count(7), 0);
        Due.noSuch("century(5, 61, 3)", () -> x.century(5, 61, 3));
        Due.noSuch("century(5, 1, -1)", () -> x.century(5, 1, -1));
        Due.illegal("century(5, 61, 0)", () -> x.century(5, 61, 0));
        Due.illegal("century(5, -1, 2)", () -> x.century(5, -1, 2));
        Due.is("nothing is refused", x.count(11), 0);
        SkyHeirs y = new SkyHeirs();
        for (int what = 0; what < 3; what++) {
            Due.is("without people", y.century(7, 60, what), 0);
        }
        SkyHeirs z = Due.of("field 1 0 0;field 2 1 1;");
        Due.is("days go by without people", z.century(7, 60, 1), 1);
        SkyHeirs noons = Due.of("person 1 0 0 0 0;field 1 50 0;");
        noons.die(0);
        Due.is("4 years with the dead alone", noons.century(1, 4, 1), 0);
        Due.is("5 years with the dead alone", noons.century(1, 5, 1), 1);
        Due.is("the noon", noons.century(1, 5, 2), 1);
    }

    /** Drawn here once more, for one who is alone, with his field on every place. */
    private static void drawn() {
        for (int seed = 0; seed < 300; seed++) {
            SkyHeirs x = Due.of("person 0 1 1 0 0;field 4 3 0;");
            int state = seed * 1234567;
            int years = seed % 61;
            int place = 0;
            int noon = -1;
            int sun = 0;
            int given = state;
            for (int year = 0; year < years; year++) {
                state = state * 1103515245 + 12345;
                state = state * 1103515245 + 12345;
                int to = (state >>> 16 & 0x7fff) % 10;
                if (noon < 0) {
                    place = to;
                    state = state * 1103515245 + 12345;
                    noon = (state >>> 16 & 0x7fff) % 4 == 0 ? place : -1;
                }
                sun += noon == 4 ? 10 : noon < 0 && place == 4 ? 1 : 0;
            }
            Due.is("alive by " + given, x.century(given, years, 0), noon < 0 ? 1 : 0);
            Due.is("ripe by " + given, x.century(given, years, 1), sun >= 3 ? 1 : 0);
            Due.is("noons by " + given, x.century(given, years, 2), noon < 0 ? 0 : 1);
        }
    }
}
