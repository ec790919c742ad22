/** Promises 1 to 4: a new object, feed, land, fault. */
public final class TextTest {
    private static final String ONE = "person 1 2 3 4 5;";
    private static final String TWO = ONE + "person 1 2 3 4 5;";

    public static void main(String[] args) {
        newObject();
        feeding();
        landing();
        tokens();
        lines();
        tooMuch();
        persons();
        secondOnes();
        expressions();
        firstFault();
        fullTape();
        landsBehindLands();
        Due.end("TextTest");
    }

    private static void newObject() {
        SkyHeirs x = new SkyHeirs();
        int[] due = {0, 0, 0, 0, 0, 300, 0, 0, 0, 0, 0, 0, 0};
        for (int what = 0; what < due.length; what++) {
            Due.is("new count(" + what + ")", x.count(what), due[what]);
        }
        Due.is("NONE", SkyHeirs.NONE, -1);
        Due.is("new fault()", x.fault(), -1);
        Due.noSuch("new person(0, 0)", () -> x.person(0, 0));
        Due.noSuch("new field(0, 0)", () -> x.field(0, 0));
        Due.is("new restore()", x.restore(), false);
        Due.is("new undo()", x.undo(), -1);
        Due.is("new weather(0, 5)", x.weather(0, 5), 0);
    }

    private static void feeding() {
        SkyHeirs x = new SkyHeirs();
        for (int i = 1; i <= 35; i++) {
            Due.is("feed", x.feed(0x20202020, -1, 0x20202020, 0x20202020, 0x20202020), 20 * i);
        }
        Due.is("feed of too much", x.feed(0x20202020, 0, 0, 0, 0), -1);
        Due.is("count(9)", x.count(9), 700);
        Due.is("land(700)", x.land(700), 1);
        Due.is("a byte of 255", x.fault(), 4);
        Due.is("tape behind land", x.count(9), 0);
        // of each number the highest byte first: "fron" "t 12" ";xyz" ..
        Due.is("feed", x.feed(0x66726f6e, 0x74203132, 0x3b78797a, 0, 0), 20);
        Due.is("land(9)", x.land(9), 0);
        Due.is("front", x.count(5), 12);
    }

    private static void landing() {
        SkyHeirs x = new SkyHeirs();
        Due.illegal("land(1) without a tape", () -> x.land(1));
        Due.illegal("land(-1)", () -> x.land(-1));
        Due.is("land(0)", x.land(0), 0);
        Due.feed(x, ONE);
        Due.illegal("land(21)", () -> x.land(21));
        Due.illegal("land(least)", () -> x.land(Integer.MIN_VALUE));
        Due.is("tape stays", x.count(9), 20);
        Due.is("land(20)", x.land(20), 0);
        Due.is("people", x.count(0), 1);
        x.go(0, 3);
        x.see(0, 2);
        x.image();
        x.arrange();
        Due.is("deaths", x.deaths(0, 0, 1), 0);
        Due.is("a fault", Due.tell(x, "wed"), 1);
        Due.is("its place", x.fault(), 3);
        Due.is("tape behind a fault", x.count(9), 0);
        Due.is("all else stays: place", x.person(0, 1), 3);
        Due.is("all else stays: acts", x.count(7), 1);
        Due.is("all else stays: seen", x.count(8), 1);
        Due.is("all else stays: row", x.post(0), -1);
        Due.is("status", x.count(10), 1);
        x.go(0, 10);
        x.see(0, -1);
        Due.is("all else stays: image", x.restore(), true);
        Due.is("status as in the image", x.count(10), 0);
        Due.is("place of the fault is no status", x.fault(), 3);
        x.go(0, 10);
        x.see(0, -1);
        Due.tell(x, "wed");
        Due.is("anew", Due.tell(x, ONE + "front 7;"), 0);
        Due.is("no fault", x.fault(), -1);
        Due.is("status 0 stays", x.count(10), 1);
        Due.is("status 1 stays", x.count(11), 1);
        Due.is("status 2 stays", x.count(12), 1);
        Due.is("acts gone", x.count(7), 0);
        Due.is("seen gone", x.count(8), 0);
        Due.noSuch("row of posts gone", () -> x.post(0));
        Due.is("image gone", x.restore(), false);
        Due.is("place anew", x.person(0, 1), 1);
        Due.is("an empty land", x.land(0), 0);
        Due.is("nobody", x.count(0), 0);
        Due.is("front without", x.count(5), 300);
        rowsGone();
    }

    private static void rowsGone() {
        SkyHeirs x = Due.of("person 1 9 0 0 0;adopted 0 1 1 1 1 1;person 2 0 0 0 0;");
        Due.is("deaths", x.deaths(1, 0, 10), 1);
        Due.is("death(0)", x.death(0), 0);
        Due.is("seatings", x.seatings(), 2);
        Due.is("seat(2)", x.seat(2), 2);
        Due.is("a fault", Due.tell(x, "a"), 1);
        Due.is("death(0) stays", x.death(0), 0);
        Due.is("seat(2) stays", x.seat(2), 2);
        Due.is("anew", Due.tell(x, ONE), 0);
        Due.noSuch("death(0) gone", () -> x.death(0));
        Due.noSuch("seat(0) gone", () -> x.seat(0));
    }

    private static void tokens() {
        Due.fault("", 0, -1);
        Due.fault(" \n ", 0, -1);
        Due.fault("person1 2\n3 4 5;person 1 0002 3 4 5 ;", 0, -1);
        Due.faultAt("#;", 1);
        Due.faultAt("#Person 1 2 3 4 5;", 1);
        Due.faultAt("person 1#", 1);
        Due.faultAt("#persons 1 2 3 4 5;", 1);
        Due.faultAt("#perso n 1 2 3 4 5;", 1);
        Due.faultAt(ONE + "\n#\t" + ONE, 1);
        Due.faultAt("person 1 2 3 4 #a5;", 1);
        Due.faultAt("person 1 2 3 4 5#a", 1);
        Due.faultAt("person 1 2 3 4 5#", 1);
        Due.faultAt("person 1 2 3 4 5   #", 1);
        Due.faultAt("person 1 2 3 4 5 #6;", 1);
        Due.faultAt("person #-1 2 3 4 5;", 1);
        Due.faultAt("person#", 1);
        Due.faultAt("law 1 #> 2;", 1);
        Due.faultAt("law 1 #12345;", 1);
        Due.faultAt(ONE + "#\u0000", 1);
        Due.faultAt(ONE + "#\u00ff", 1);
        Due.faultAt(ONE + "#\r", 1);
    }

    private static void lines() {
        Due.fault("person 0 0 0 0 0;person 9 999 999 999 999;", 0, -1);
        Due.faultAt("person #10 2 3 4 5;", 2);
        Due.faultAt("person 1 #1000 3 4 5;", 2);
        Due.faultAt("person 1 2 3 4 #1000;", 2);
        Due.faultAt("person 1 2 3 4 #00001;", 2);
        Due.faultAt("person #99999999999999999999 2 3 4 5;", 2);
        Due.fault(TWO + "child 0 1 9 1 2 3 4;adopted 2 0 9 9 9 9;", 0, -1);
        Due.faultAt(TWO + "child 0 1 #10 1 2 3 4;", 2);
        Due.faultAt(TWO + "adopted 0 1 1 #1000 3 4;", 2);
        Due.faultAt(TWO + "child 0 #;", 1);
        Due.fault(TWO + "will 0 1 1;will 1 0 99;", 0, -1);
        Due.faultAt(TWO + "will 0 1 #0;", 2);
        Due.faultAt(TWO + "will 0 1 #100;", 2);
        Due.fault("field 0 0 0;field 9 9999 9999;", 0, -1);
        Due.faultAt("field #10 0 0;", 2);
        Due.faultAt("field 1 #10000 0;", 2);
        Due.faultAt("field 1 0 #10000;", 2);
        Due.faultAt("field 1 0#", 1);
        Due.fault("front 1;", 0, -1);
        Due.fault("front 3996;", 0, -1);
        Due.faultAt("front #0;", 2);
        Due.faultAt("front #3997;", 2);
        Due.faultAt("front #law 1;", 1);
    }

    private static void tooMuch() {
        Due.fault(ONE.repeat(12), 0, -1);
        Due.faultAt(ONE.repeat(12) + "#person", 2);
        Due.faultAt(ONE.repeat(12) + "#child", 2);
        Due.faultAt(ONE.repeat(12) + "#adopted", 2);
        StringBuilder wills = new StringBuilder(ONE.repeat(5));
        for (int i = 0; i < 12; i++) {
            int owner = i / 4;
            int heir = i % 4 + (i % 4 >= owner ? 1 : 0);
            wills.append("will ").append(owner).append(' ').append(heir).append(" 5;");
        }
        Due.fault(wills.toString(), 0, -1);
        Due.faultAt(wills + "#will 3 3 5;", 2);
        String fields = "field 0 1 1;field 1 1 1;field 2 1 1;field 3 1 1;field 4 1 1;field 5 1 1;";
        Due.fault(fields, 0, -1);
        Due.faultAt(fields + "#field 5 1 1;", 2);
    }

    private static void persons() {
        Due.faultAt("child #0 1 1 1 1 1 1;", 3);
        Due.faultAt(ONE + "child 0 #1 1 1 1 1 1;", 3);
        Due.faultAt(ONE + "child 0 #0 1 1 1 1 1;", 4);
        Due.faultAt(ONE + "child 0 #12345 1 1 1 1 1;", 2);
        Due.faultAt(ONE + "adopted #1 1 1 1 1 1;", 3);
        Due.faultAt(ONE + "wed #50 0;", 3);
        Due.faultAt("wed #0 1;" + TWO, 3);
        Due.faultAt(ONE + "wed 0 #0;", 4);
        Due.faultAt(ONE + "wed 0 #1;", 3);
        Due.faultAt(ONE + "wed 0 #12345;", 2);
        Due.faultAt(ONE + "will 0 #0 1;", 4);
        Due.faultAt(ONE + "will #1 0 1;", 3);
        Due.faultAt(ONE + "will 0 #a 1;", 1);
        Due.fault(TWO + ONE + "will 0 1 1;will 0 2 1;will 1 0 2;", 0, -1);
        Due.faultAt(TWO + "will 0 1 1;will 0 #1 1;", 4);
    }

    private static void secondOnes() {
        Due.faultAt("field 3 1 1;field #3 1 1;", 4);
        Due.faultAt("front 3;#front 3;", 5);
        Due.faultAt("law 3;#law 3;", 5);
        Due.fault("law 3;front 3;", 0, -1);
        Due.faultAt(TWO + ONE + "wed 0 1;wed #1 2;", 6);
        Due.faultAt(TWO + ONE + "wed 0 1;wed 2 #0;", 6);
        Due.faultAt(TWO + "wed 0 1;wed #0 1;", 6);
    }

    private static void expressions() {
        Due.fault("law 1 or 2 and not 3 < 4 + 5 * 6;", 0, -1);
        Due.fault("law child+adopted-spouse*parent/sibling<number*here;", 0, -1);
        Due.faultAt("law 1 < 2 #< 3;", 1);
        Due.faultAt("law 1 = 2 #< 3;", 1);
        Due.faultAt("law#", 1);
        Due.faultAt("law #;", 1);
        Due.faultAt("law 1 +#", 1);
        Due.faultAt("law 1#", 1);
        Due.faultAt("law 1 #2;", 1);
        Due.faultAt("law 1 #child;", 1);
        Due.faultAt("law 1 #not;", 1);
        Due.faultAt("law (1#;", 1);
        Due.faultAt("law 1#);", 1);
        Due.faultAt("law #-1;", 1);
        Due.faultAt("law #);", 1);
        Due.faultAt("law 1 or #;", 1);
        Due.faultAt("law #person;", 3);
        Due.faultAt("law #or 1;", 3);
        Due.faultAt("law 1 + #not 1;", 3);
        Due.faultAt("law 1 < #not 1;", 3);
        Due.faultAt("law 1 and #foo;", 3);
        Due.faultAt("law (not #and);", 3);
        Due.faultAt("law #children;", 3);
        Due.faultAt("law #z;", 3);
        Due.faultAt("law #a;", 3);
        Due.fault("law 9999;", 0, -1);
        Due.faultAt("law 1 * #10000;", 2);
        Due.fault("law not not not not not not 1;", 0, -1);
        Due.faultAt("law not not not not not not #not 1;", 2);
        Due.fault("law not not not not not not (not not 1) and not 1;", 0, -1);
        Due.fault("law (((((1)))));", 0, -1);
        Due.fault("law (((((not 1) + 1)))) < 3;", 0, -1);
        Due.faultAt("law ((((((#1))))));", 2);
        Due.faultAt("law ((((((#12345))))));", 2);
        Due.faultAt("law ((((((#foo))))));", 2);
        Due.faultAt("law ((((((#not 1))))));", 2);
        Due.faultAt("law ((((((#(1)))))));", 2);
        Due.faultAt("law ((((((#))))));", 1);
        Due.faultAt("law ((((((#", 1);
        Due.faultAt("law ((((((#+", 1);
        Due.fault("law (1)+(2)+(3)+(4)+(5)+(6)+(7)+(8);", 0, -1);
    }

    private static void firstFault() {
        Due.faultAt("person #10 1000 3 4 5 x", 2);
        Due.faultAt("front 3;#front 5000", 5);
        Due.faultAt(TWO + "will 0 #2 100;field", 3);
    }

    private static void fullTape() {
        String people = "person 0 999 0 0 0;person 0 1 0 0 0;person 0 1 0 0 0;";
        StringBuilder law = new StringBuilder("law(number=1)+(number=2)*(0");
        while (people.length() + law.length() + 4 <= 700) {
            law.append("+1");
        }
        String text = people + law + ");";
        int share = (law.length() - "law(number=1)+(number=2)*(0".length()) / 2;
        SkyHeirs x = Due.of(text);
        Due.is("a share by a long law", x.heir(0, 2, 0), 999 * share / (share + 1));
        Due.fault(";".repeat(700), 1, 0);
        Due.fault("law " + "(1)+".repeat(174), 1, 700);
        Due.fault("person 0 1 1 1 1" + " ".repeat(684), 1, 700);
        Due.fault(" ".repeat(699) + "\n", 0, -1);
    }

    /** Nothing of a land is left in the next one. */
    private static void landsBehindLands() {
        SkyHeirs x = Due.of(TWO + ONE + "wed 0 1;will 0 2 5;will 2 1 5;field 1 1 1;field 2 1 1;front 5;law here;");
        Due.is("land", Due.tell(x, TWO + ONE), 0);
        int[] due = {3, 3, 0, 0, 0, 300, 0};
        for (int what = 0; what < due.length; what++) {
            Due.is("count(" + what + ")", x.count(what), due[what]);
        }
        Due.is("not wed", x.person(0, 6), -1);
        Due.is("no will", x.heir(0, 2, 0), 0);
        Due.is("no law", x.die(0), 0);
        Due.is("land", Due.tell(x, TWO + "wed 0 1;will 0 1 5;field 1 1 1;front 5;law here;"), 0);
        Due.is("by will", x.die(0), 1);
    }
}
