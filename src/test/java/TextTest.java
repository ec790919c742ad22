/** Promises 1 to 4: a new object, feed, land, fault. The bounds of a TEXT stand in TermsTest, GrammarTest and FaultsTest. */
public final class TextTest {
    private static final String ONE = "person 1 2 3 4 5;";
    private static final String TWO = ONE + "person 1 2 3 4 5;";

    public static void main(String[] args) {
        newObject();
        feeding();
        landing();
        tokens();
        expressions();
        fullTape();
        landsBehindLands();
        allAnew();
        Due.end("TextTest");
    }

    private static void newObject() {
        SkyHeirs x = new SkyHeirs();
        int[] due = {0, 0, 0, 0, 0, 300, 0, 0, 0, 0, 0, 0, 0};
        for (int what = 0; what < due.length; what++) {
            Due.is("new count(" + what + ")", x.count(what), due[what]);
        }
        Due.is("NONE", SkyHeirs.NONE, -1);
        Due.is("new fault()", x.fault(), -1);
        Due.noSuch("new person(0, 0)", () -> x.person(0, 0));
        Due.noSuch("new field(0, 0)", () -> x.field(0, 0));
        Due.is("new restore()", x.restore(), false);
        Due.is("new undo()", x.undo(), -1);
        Due.is("new weather(0, 5)", x.weather(0, 5), 0);
    }

    private static void feeding() {
        SkyHeirs x = new SkyHeirs();
        for (int i = 1; i <= 35; i++) {
            Due.is("feed", x.feed(0x20202020, -1, 0x20202020, 0x20202020, 0x20202020), 20 * i);
        }
        Due.is("feed of too much", x.feed(0x20202020, 0, 0, 0, 0), -1);
        Due.is("count(9)", x.count(9), 700);
        Due.is("land(700)", x.land(700), 1);
        Due.is("a byte of 255", x.fault(), 4);
        Due.is("tape behind land", x.count(9), 0);
        // of each number the highest byte first: "fron" "t 12" ";xyz" ..
        Due.is("feed", x.feed(0x66726f6e, 0x74203132, 0x3b78797a, 0, 0), 20);
        Due.is("land(9)", x.land(9), 0);
        Due.is("front", x.count(5), 12);
    }

    private static void landing() {
        SkyHeirs x = new SkyHeirs();
        Due.illegal("land(1) without a tape", () -> x.land(1));
        Due.illegal("land(-1)", () -> x.land(-1));
        Due.is("land(0)", x.land(0), 0);
        Due.feed(x, ONE);
        Due.illegal("land(21)", () -> x.land(21));
        Due.illegal("land(least)", () -> x.land(Integer.MIN_VALUE));
        Due.is("tape stays", x.count(9), 20);
        Due.is("land(20)", x.land(20), 0);
        Due.is("people", x.count(0), 1);
        x.go(0, 3);
        x.see(0, 2);
        x.image();
        x.arrange();
        Due.is("deaths", x.deaths(0, 0, 1), 0);
        Due.is("a fault", Due.tell(x, "wed"), 1);
        Due.is("its place", x.fault(), 3);
        Due.is("tape behind a fault", x.count(9), 0);
        Due.is("all else stays: place", x.person(0, 1), 3);
        Due.is("all else stays: acts", x.count(7), 1);
        Due.is("all else stays: seen", x.count(8), 1);
        Due.is("all else stays: row", x.post(0), -1);
        Due.is("status", x.count(10), 1);
        x.go(0, 10);
        x.see(0, -1);
        Due.is("all else stays: image", x.restore(), true);
        Due.is("status as in the image", x.count(10), 0);
        Due.is("place of the fault is no status", x.fault(), 3);
        x.go(0, 10);
        x.see(0, -1);
        Due.tell(x, "wed");
        Due.is("anew", Due.tell(x, ONE + "front 7;"), 0);
        Due.is("no fault", x.fault(), -1);
        Due.is("status 0 stays", x.count(10), 1);
        Due.is("status 1 stays", x.count(11), 1);
        Due.is("status 2 stays", x.count(12), 1);
        Due.is("acts gone", x.count(7), 0);
        Due.is("seen gone", x.count(8), 0);
        Due.noSuch("row of posts gone", () -> x.post(0));
        Due.is("image gone", x.restore(), false);
        Due.is("place anew", x.person(0, 1), 1);
        Due.is("an empty land", x.land(0), 0);
        Due.is("nobody", x.count(0), 0);
        Due.is("front without", x.count(5), 300);
        rowsGone();
    }

    private static void rowsGone() {
        SkyHeirs x = Due.of("person 1 9 0 0 0;adopted 0 1 1 1 1 1;person 2 0 0 0 0;");
        Due.is("deaths", x.deaths(1, 0, 10), 1);
        Due.is("death(0)", x.death(0), 0);
        Due.is("seatings", x.seatings(), 2);
        Due.is("seat(2)", x.seat(2), 2);
        Due.is("a fault", Due.tell(x, "a"), 1);
        Due.is("death(0) stays", x.death(0), 0);
        Due.is("seat(2) stays", x.seat(2), 2);
        Due.is("anew", Due.tell(x, ONE), 0);
        Due.noSuch("death(0) gone", () -> x.death(0));
        Due.noSuch("seat(0) gone", () -> x.seat(0));
    }

    private static void tokens() {
        Due.fault("", 0, -1);
        Due.fault(" \n ", 0, -1);
        Due.fault("person1 2\n3 4 5;person 1 0002 3 4 5 ;", 0, -1);
        Due.faultAt("#;", 1);
        Due.faultAt("#Person 1 2 3 4 5;", 1);
        Due.faultAt("person 1#", 1);
        Due.faultAt("#persons 1 2 3 4 5;", 1);
        Due.faultAt("#perso n 1 2 3 4 5;", 1);
        Due.faultAt(ONE + "\n#\t" + ONE, 1);
        Due.faultAt("person 1 2 3 4 #a5;", 1);
        Due.faultAt("person 1 2 3 4 5#a", 1);
        Due.faultAt("person 1 2 3 4 5#", 1);
        Due.faultAt("person 1 2 3 4 5   #", 1);
        Due.faultAt("person 1 2 3 4 5 #6;", 1);
        Due.faultAt("person #-1 2 3 4 5;", 1);
        Due.faultAt("person#", 1);
        Due.faultAt("law 1 #> 2;", 1);
        Due.faultAt("law 1 #12345;", 1);
        Due.faultAt(ONE + "#\u0000", 1);
        Due.faultAt(ONE + "#\u00ff", 1);
        Due.faultAt(ONE + "#\r", 1);
    }

    private static void expressions() {
        Due.fault("law 1 or 2 and not 3 < 4 + 5 * 6;", 0, -1);
        Due.fault("law child+adopted-spouse*parent/sibling<number*here;", 0, -1);
        Due.faultAt("law 1 < 2 #< 3;", 1);
        Due.faultAt("law 1 = 2 #< 3;", 1);
        Due.faultAt("law#", 1);
        Due.faultAt("law #;", 1);
        Due.faultAt("law 1 +#", 1);
        Due.faultAt("law 1#", 1);
        Due.faultAt("law 1 #2;", 1);
        Due.faultAt("law 1 #child;", 1);
        Due.faultAt("law 1 #not;", 1);
        Due.faultAt("law (1#;", 1);
        Due.faultAt("law 1#);", 1);
        Due.faultAt("law #-1;", 1);
        Due.faultAt("law #);", 1);
        Due.faultAt("law 1 or #;", 1);
        Due.faultAt("law #person;", 3);
        Due.faultAt("law #or 1;", 3);
        Due.faultAt("law 1 + #not 1;", 3);
        Due.faultAt("law 1 < #not 1;", 3);
        Due.faultAt("law 1 and #foo;", 3);
        Due.faultAt("law (not #and);", 3);
        Due.faultAt("law #children;", 3);
        Due.faultAt("law #z;", 3);
        Due.faultAt("law #a;", 3);
        Due.fault("law 9999;", 0, -1);
        Due.faultAt("law 1 * #10000;", 2);
        Due.fault("law not not not not not not 1;", 0, -1);
        Due.faultAt("law not not not not not not #not 1;", 2);
        Due.fault("law not not not not not not (not not 1) and not 1;", 0, -1);
        Due.fault("law (((((1)))));", 0, -1);
        Due.fault("law (((((not 1) + 1)))) < 3;", 0, -1);
        Due.faultAt("law ((((((#1))))));", 2);
        Due.faultAt("law ((((((#12345))))));", 2);
        Due.faultAt("law ((((((#foo))))));", 2);
        Due.faultAt("law ((((((#not 1))))));", 2);
        Due.faultAt("law ((((((#(1)))))));", 2);
        Due.faultAt("law ((((((#))))));", 1);
        Due.faultAt("law ((((((#", 1);
        Due.faultAt("law ((((((#+", 1);
        Due.fault("law (1)+(2)+(3)+(4)+(5)+(6)+(7)+(8);", 0, -1);
    }

    private static void fullTape() {
        String people = "person 0 999 0 0 0;person 0 1 0 0 0;person 0 1 0 0 0;";
        StringBuilder law = new StringBuilder("law(number=1)+(number=2)*(0");
        while (people.length() + law.length() + 4 <= 700) {
            law.append("+1");
        }
        String text = people + law + ");";
        int share = (law.length() - "law(number=1)+(number=2)*(0".length()) / 2;
        SkyHeirs x = Due.of(text);
        Due.is("a share by a long law", x.heir(0, 2, 0), 999 * share / (share + 1));
        Due.fault(";".repeat(700), 1, 0);
        Due.fault("law " + "(1)+".repeat(174), 1, 700);
        Due.fault("person 0 1 1 1 1" + " ".repeat(684), 1, 700);
        Due.fault(" ".repeat(699) + "\n", 0, -1);
    }

    /** Nothing of a land is left in the next one. */
    private static void landsBehindLands() {
        SkyHeirs x = Due.of(TWO + ONE + "wed 0 1;will 0 2 5;will 2 1 5;field 1 1 1;field 2 1 1;front 5;law here;");
        Due.is("land", Due.tell(x, TWO + ONE), 0);
        int[] due = {3, 3, 0, 0, 0, 300, 0};
        for (int what = 0; what < due.length; what++) {
            Due.is("count(" + what + ")", x.count(what), due[what]);
        }
        Due.is("not wed", x.person(0, 6), -1);
        Due.is("no will", x.heir(0, 2, 0), 0);
        Due.is("no law", x.die(0), 0);
        Due.is("land", Due.tell(x, TWO + "wed 0 1;will 0 1 5;field 1 1 1;front 5;law here;"), 0);
        Due.is("by will", x.die(0), 1);
    }

    /** Each thing that a land tells, told in another way by the next one. */
    private static void allAnew() {
        SkyHeirs x = Due.of(TWO + ONE + "law number = 1;");
        Due.is("by the first law", x.heir(0, 1, 0), 2);
        Due.is("land", Due.tell(x, TWO + ONE + "law number = 2;"), 0);
        Due.is("by the second law", x.heir(0, 1, 0), 0);
        Due.is("by the second law", x.heir(0, 2, 0), 2);
        Due.is("land", Due.tell(x, TWO + "adopted 0 1 2 3 4 5;"), 0);
        Due.is("without a law", x.heir(0, 1, 0), 0);
        Due.is("without a law", x.heir(0, 2, 0), 2);
        Due.is("land", Due.tell(x, TWO + "child 0 1 1 2 3 4 5;"), 0);
        Due.is("not adopted", x.person(2, 5), 0);
        Due.is("two parents", x.person(2, 2), 2);
        Due.is("land", Due.tell(x, TWO + ONE), 0);
        Due.is("no parents", x.person(2, 2), 0);
        Due.is("nobody's child", x.kin(0, 2), -1);
        String wills = ONE.repeat(12) + "will 0 1 1;will 1 11 2;will 2 3 3;will 10 11 4;will 11 0 5;will 11 10 6;";
        Due.is("land", Due.tell(x, wills), 0);
        Due.is("6 wills", x.count(2), 6);
        Due.is("land", Due.tell(x, wills + "will 3 2 1;"), 0);
        Due.is("7 wills", x.count(2), 7);
        Due.is("land", Due.tell(x, ONE.repeat(12)), 0);
        Due.is("no wills", x.count(2), 0);
        for (int person = 0; person < 12; person++) {
            Due.is("nobody inherits of " + person, x.die(person), 0);
        }
        Due.is("land", Due.tell(x, "field 1 7 7;field 2 8 8;" + ONE), 0);
        x.days(3);
        x.die(0);
        Due.is("land", Due.tell(x, "field 2 9 9;field 1 5 5;" + ONE), 0);
        int[] due = {2, 9, 9, 0, 0, 0};
        for (int what = 0; what < 6; what++) {
            Due.is("field(0, " + what + ")", x.field(0, what), due[what]);
        }
        Due.is("no noon", x.count(6), 0);
        Due.is("one is alive", x.count(1), 1);
        Due.is("one is there", x.weather(1, 5), 1);
        Due.is("his sun", x.weather(1, 0), 2);
        Due.is("sets of one", x.fits(0), 2);
    }
}
