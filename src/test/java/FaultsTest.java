/** The FAULTS that hang on what was told ahead: 3 to 6; which one is told where there are several. */
public final class FaultsTest {
    private static final String ONE = "person 1 2 3 4 5;";
    private static final String FOUR = ONE.repeat(4);

    public static void main(String[] args) {
        notToldAhead();
        firstOneAgain();
        leftAlready();
        fieldThere();
        secondFrontAndLaw();
        wedAlready();
        firstAlongTheText();
        leastOfOneToken();
        behindAFault();
        Due.end("FaultsTest");
    }

    /** Each PERSON of each kind of line: the last one that is told, the first one that isn't. */
    private static void notToldAhead() {
        String[] lines = {"child @ 1 5 1 1 1 1;", "child 1 @ 5 1 1 1 1;", "adopted @ 5 1 1 1 1;", "wed @ 1;", "wed 1 @;",
            "will @ 1 5;", "will 1 @ 5;"};
        for (String line : lines) {
            for (int people : new int[] {3, 4, 11}) {
                String ahead = ONE.repeat(people);
                Due.fault(ahead + line.replace("@", "" + (people - 1)), 0, -1);
                Due.fault(ahead + line.replace("@", "0"), 0, -1);
                Due.faultAt(ahead + line.replace("@", "#" + people), 3);
                Due.faultAt(ahead + line.replace("@", "#11") + ONE, 3);
                // he is told, but behind this line
                Due.faultAt(ahead + line.replace("@", "#" + people) + ONE + ONE, 3);
            }
        }
        Due.fault(ONE.repeat(12) + "wed 11 0;will 0 11 1;will 11 0 1;", 0, -1);
        Due.faultAt("child #0 1 1 1 1 1 1;", 3);
        Due.faultAt("adopted #0 1 1 1 1 1;", 3);
        Due.faultAt("wed #0 1;", 3);
        Due.faultAt("will #0 1 1;", 3);
        Due.faultAt(ONE + "child 0 #1 1 1 1 1 1;", 3);
    }

    private static void firstOneAgain() {
        for (int person = 0; person < 4; person++) {
            Due.faultAt(FOUR + "child " + person + " #" + person + " 1 1 1 1 1;", 4);
            Due.faultAt(FOUR + "wed " + person + " #" + person + ";", 4);
            Due.faultAt(FOUR + "will " + person + " #" + person + " 1;", 4);
            Due.faultAt(FOUR + "will " + person + " #0" + person + " 1;", 4);
            int other = (person + 1) % 4;
            Due.fault(FOUR + "child " + person + " " + other + " 1 1 1 1 1;", 0, -1);
            Due.fault(FOUR + "wed " + person + " " + other + ";", 0, -1);
            Due.fault(FOUR + "will " + person + " " + other + " 1;", 0, -1);
        }
    }

    private static void leftAlready() {
        String wills = FOUR + "will 0 1 5;will 2 3 6;";
        Due.faultAt(wills + "will 0 #1 5;", 4);
        Due.faultAt(wills + "will 0 #1 99;", 4);
        Due.faultAt(wills + "will 2 #3 1;", 4);
        Due.faultAt(wills + "will 2 #0003 1;", 4);
        Due.faultAt(FOUR + "will 0 1 1;will 0 #1 1;", 4);
        Due.faultAt(FOUR + "will 3 0 99;will 3 #0 1;", 4);
        Due.fault(wills + "will 1 0 5;will 3 2 6;will 0 2 1;will 0 3 1;will 2 1 1;will 1 3 1;", 0, -1);
        Due.faultAt(wills + "will 0 3 1;will 0 2 1;will 2 0 1;will 0 #1 1;", 4);
    }

    private static void fieldThere() {
        for (int place = 0; place <= 9; place++) {
            Due.faultAt("field " + place + " 1 1;field #" + place + " 2 2;", 4);
            Due.fault("field " + place + " 1 1;field " + (place + 1) % 10 + " 1 1;", 0, -1);
        }
        Due.faultAt("field 3 1 1;field 4 1 1;field #3 1 1;", 4);
        Due.faultAt("field 3 1 1;field 4 1 1;field 0 1 1;field #0004 1 1;", 4);
    }

    private static void secondFrontAndLaw() {
        Due.faultAt("front 3;" + ONE + "#front 4;", 5);
        Due.faultAt("front 300;#front 300;", 5);
        Due.faultAt("front 3;#front", 5);
        Due.faultAt("front 3;#front 0;", 5);
        Due.faultAt("law 1;" + ONE + "#law 1;", 5);
        Due.faultAt("law 0;#law 0;", 5);
        Due.faultAt("law 1;#law", 5);
        Due.faultAt("law 1;#law foo;", 5);
        Due.fault("front 3;law 1;", 0, -1);
        Due.fault("law 1;front 3;", 0, -1);
    }

    private static void wedAlready() {
        String wed = FOUR + "wed 0 1;";
        Due.faultAt(wed + "wed #0 2;", 6);
        Due.faultAt(wed + "wed #1 2;", 6);
        Due.faultAt(wed + "wed 2 #0;", 6);
        Due.faultAt(wed + "wed 2 #1;", 6);
        Due.faultAt(wed + "wed #0 1;", 6);
        Due.faultAt(wed + "wed #1 0;", 6);
        Due.faultAt(wed + "wed #0 0;", 6);
        Due.faultAt(wed + "wed #0 9;", 6);
        Due.faultAt(wed + "wed 2 3;wed #3 0;", 6);
        Due.fault(wed + "wed 2 3;", 0, -1);
        Due.fault(wed + "wed 3 2;", 0, -1);
        SkyHeirs x = Due.of(wed);
        int[] due = {1, 0, -1, -1};
        for (int person = 0; person < 4; person++) {
            Due.is("with whom wed", x.person(person, 6), due[person]);
        }
    }

    /** Whatever comes behind the first fault, greater or lesser. */
    private static void firstAlongTheText() {
        String[] faults = {"#;", "front #0;", "wed #9 0;", "wed 0 #0;", "front 5;#front 5;", "wed 0 1;wed #0 2;"};
        for (int first = 0; first < 6; first++) {
            for (int second = 0; second < 6; second++) {
                String behind = faults[second].replace("#", "");
                Due.faultAt(FOUR + faults[first] + behind, first + 1);
                Due.faultAt(FOUR + faults[first] + " ! ", first + 1);
            }
        }
        Due.faultAt("person #10 1000 3 4 5 x", 2);
        Due.faultAt(FOUR + "will #4 4 0", 3);
        Due.faultAt(FOUR + "will 0 #4 0", 3);
        Due.faultAt(FOUR + "will 0 #0 0", 4);
        Due.faultAt("law #foo", 3);
    }

    private static void leastOfOneToken() {
        // five digits, and nobody of that number is told
        Due.faultAt(FOUR + "wed #10000 1;", 2);
        Due.faultAt(FOUR + "will 0 #00000 1;", 2);
        Due.faultAt(FOUR + "child 0 #00000 1 1 1 1 1;", 2);
        Due.faultAt(FOUR + "wed 0 1;wed #00000 2;", 2);
        Due.faultAt("field 0 1 1;field #00000 1 1;", 2);
        // an EXPR within six others that begins with a word that is no VALUE, or with a seventh 'not'
        Due.faultAt("law ((((((#foo", 2);
        Due.faultAt("law ((((((#not", 2);
        Due.faultAt("law not not not not not not #not", 2);
        // a byte that is no token where an EXPR can't stand any more
        Due.faultAt("law ((((((#!", 1);
    }

    /** A line with a fault tells nothing: all is as it was. */
    private static void behindAFault() {
        SkyHeirs x = Due.of(FOUR + "wed 0 1;will 0 2 3;field 1 1 1;front 9;law spouse;");
        String[] texts = {"person 2 1 1 1", FOUR + "child 0 0", "field 3 1 1;field 3", "front 8;law 1;wed", "law child +",
            ONE + "will 0", "front 7"};
        for (int i = 0; i < texts.length; i++) {
            Due.is("has a fault", Due.tell(x, texts[i]) > 0, true);
            int[] due = {4, 4, 1, 1, 0, 9, 0, 0, 0, 0, i + 1, 0, 0};
            for (int what = 0; what < due.length; what++) {
                Due.is("count(" + what + ")", x.count(what), due[what]);
            }
        }
        Due.is("wed still", x.person(1, 6), 0);
        Due.is("by will still", x.heir(0, 2, 0), 2);
        Due.is("by law still", x.heir(1, 0, 0), 2);
        Due.is("the field still", x.field(0, 0), 1);
    }
}
