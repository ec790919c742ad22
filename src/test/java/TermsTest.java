/** The bounds that "Terms" tells for a TEXT, each from both sides: the last that is taken, the first that is not. */
public final class TermsTest {
    private static final String ONE = "person 1 2 3 4 5;";
    private static final String TWO = ONE + "person 1 2 3 4 5;";

    public static void main(String[] args) {
        twelvePeople();
        thirteenth();
        skies();
        places();
        parents();
        twelveWills();
        shares();
        sixFields();
        wants();
        fronts();
        digits();
        bytes();
        tape();
        Due.end("TermsTest");
    }

    private static void twelvePeople() {
        SkyHeirs x = Due.of(TWO + "child 0 1 9 1 1 1 1;".repeat(5) + "adopted 1 0 7 7 7 7;".repeat(5));
        Due.is("12 people", x.count(0), 12);
        Due.is("all alive", x.count(1), 12);
        for (int person = 0; person < 12; person++) {
            Due.is("alive at first " + person, x.person(person, 0), 1);
            Due.is("place " + person, x.person(person, 1), person < 2 ? 1 : person < 7 ? 9 : 0);
            Due.is("sky " + person, x.sky(person, 0), person < 2 ? 2 : person < 7 ? 1 : 7);
        }
        Due.noSuch("person(12, 0)", () -> x.person(12, 0));
        Due.is("the last one goes", x.go(11, 5), 0);
        Due.is("and is there", x.weather(5, 5), 1);
        Due.is("as bits", x.contested(11), 0);
        Due.is("and dies", x.die(11), 0);
        Due.is("11 are alive", x.count(1), 11);
    }

    private static void thirteenth() {
        String eleven = ONE.repeat(11);
        Due.fault(eleven + "child 0 10 9 1 1 1 1;", 0, -1);
        Due.fault(eleven + "adopted 10 9 1 1 1 1;", 0, -1);
        for (String twelfth : new String[] {ONE, "child 0 1 1 1 1 1 1;", "adopted 0 1 1 1 1 1;"}) {
            for (String more : new String[] {"person", "child", "adopted"}) {
                Due.faultAt(eleven + twelfth + "#" + more + " 0 1 1 1 1 1 1;", 2);
                Due.faultAt(eleven + twelfth + "#" + more + " 99999", 2);
            }
        }
        Due.fault(eleven + ONE + "wed 0 11;will 11 0 1;field 0 0 0;front 9;law 1;", 0, -1);
    }

    /** Of each kind of line each part: 0 and 999 are taken, 1000 is not. */
    private static void skies() {
        for (String line : new String[] {"person 4", "child 0 1 4", "adopted 1 4"}) {
            for (int part = 0; part < 4; part++) {
                String ahead = TWO + line + " 7".repeat(part) + " ";
                String behind = " 8".repeat(3 - part) + ";";
                for (int much : new int[] {0, 1, 998, 999}) {
                    SkyHeirs x = Due.of(ahead + much + behind);
                    for (int other = 0; other < 4; other++) {
                        int due = other == part ? much : other < part ? 7 : 8;
                        Due.is(line + " sky(2, " + other + ")", x.sky(2, other), due);
                    }
                }
                Due.faultAt(ahead + "#1000" + behind, 2);
                Due.faultAt(ahead + "#9999" + behind, 2);
                Due.faultAt(ahead + "#10000" + behind, 2);
            }
        }
    }

    private static void places() {
        for (String line : new String[] {"person", "child 0 1", "adopted 1"}) {
            for (int place = 0; place <= 9; place++) {
                SkyHeirs x = Due.of(TWO + line + " " + place + " 1 1 1 1;");
                Due.is(line + " place", x.person(2, 1), place);
                Due.is(line + " there", x.weather(place, 5), place == 1 ? 3 : 1);
            }
            Due.faultAt(TWO + line + " #10 1 1 1 1;", 2);
            Due.faultAt(TWO + line + " #9999 1 1 1 1;", 2);
            Due.faultAt(TWO + line + " #10000 1 1 1 1;", 2);
        }
        for (int place = 0; place <= 9; place++) {
            Due.is("place of a field", Due.of("field " + place + " 1 1;").field(0, 0), place);
        }
        Due.faultAt("field #10 1 1;", 2);
        Due.faultAt("field #9999 1 1;", 2);
        Due.faultAt("field #12345 1 1;", 2);
        Due.faultAt("field #00000 1 1;", 2);
    }

    /** None, two, or one of an adopted one. */
    private static void parents() {
        SkyHeirs x = Due.of(TWO + "child 1 0 1 1 1 1 1;adopted 2 1 1 1 1 1;child 3 2 1 1 1 1 1;");
        int[][] due = {{0, -1, -1, 0}, {0, -1, -1, 0}, {2, 1, 0, 0}, {1, 2, -1, 1}, {2, 3, 2, 0}};
        for (int person = 0; person < 5; person++) {
            for (int what = 2; what < 6; what++) {
                Due.is("person(" + person + ", " + what + ")", x.person(person, what), due[person][what - 2]);
            }
        }
    }

    /** So many wills, of 0 to 1, 2 ..; then those of 1. */
    private static String wills(int many) {
        StringBuilder wills = new StringBuilder("person 1 2 3 4 5;".repeat(9));
        for (int i = 0; i < many; i++) {
            wills.append(i < 8 ? "will 0 " + (i + 1) : "will 1 " + (i - 6)).append(" 1;");
        }
        return wills.toString();
    }

    private static void twelveWills() {
        for (int many : new int[] {0, 1, 11, 12}) {
            Due.is(many + " wills", Due.of(wills(many)).count(2), many);
        }
        SkyHeirs x = Due.of(wills(12));
        Due.is("8 inherit by will", x.die(0), 8);
        Due.is("4 inherit by will", x.die(1), 4);
        Due.faultAt(wills(12) + "#will 1 6 1;", 2);
        Due.faultAt(wills(12) + "#will 0 0 0;", 2);
        Due.faultAt(wills(12) + "#will", 2);
        Due.fault(wills(12) + ONE + "wed 1 2;", 0, -1);
    }

    private static void shares() {
        String three = "person 1 999 0 0 0;" + TWO;
        for (int share : new int[] {1, 2, 98, 99}) {
            SkyHeirs x = Due.of(three + "will 0 2 " + share + ";will 0 1 99;");
            Due.is("by a share of " + share, x.heir(0, 2, 0), 999 * share / (share + 99));
        }
        Due.faultAt(three + "will 0 2 #0;", 2);
        Due.faultAt(three + "will 0 2 #100;", 2);
        Due.faultAt(three + "will 0 2 #9999;", 2);
        Due.faultAt(three + "will 0 2 #00001;", 2);
    }

    private static void sixFields() {
        String six = "field 9 1 2;field 0 3 4;field 5 5 6;field 1 7 8;field 2 9 10;field 3 11 12;";
        SkyHeirs x = Due.of(six);
        Due.is("6 fields", x.count(3), 6);
        int[] places = {9, 0, 5, 1, 2, 3};
        for (int field = 0; field < 6; field++) {
            Due.is("place", x.field(field, 0), places[field]);
            Due.is("sun it wants", x.field(field, 1), 2 * field + 1);
            Due.is("rain it wants", x.field(field, 2), 2 * field + 2);
        }
        Due.noSuch("field(6, 0)", () -> x.field(6, 0));
        Due.faultAt(six + "#field 4 1 1;", 2);
        Due.faultAt(six + "#field 9 1 1;", 2);
        Due.faultAt(six + "#field", 2);
        Due.fault(six + ONE + "front 3;law 3;", 0, -1);
    }

    private static void wants() {
        for (int much : new int[] {0, 1, 9998, 9999}) {
            SkyHeirs x = Due.of("field 1 " + much + " 5;field 2 5 " + much + ";");
            Due.is("sun it wants", x.field(0, 1), much);
            Due.is("rain it wants", x.field(0, 2), 5);
            Due.is("sun it wants", x.field(1, 1), 5);
            Due.is("rain it wants", x.field(1, 2), much);
        }
        Due.faultAt("field 1 #10000 5;", 2);
        Due.faultAt("field 1 5 #10000;", 2);
    }

    private static void fronts() {
        for (int front : new int[] {1, 2, 299, 300, 301, 3995, 3996}) {
            Due.is("front", Due.of("front " + front + ";").count(5), front);
        }
        Due.is("without", Due.of(ONE).count(5), 300);
        Due.faultAt("front #0;", 2);
        Due.faultAt("front #0000;", 2);
        Due.faultAt("front #3997;", 2);
        Due.faultAt("front #9999;", 2);
        Due.faultAt("front #10000;", 2);
        SkyHeirs x = Due.of("person 1 5 5 5 5;person 2 5 5 5 5;person 3 5 5 5 6;front 1;");
        Due.is("alike", x.front(0, 1), 0);
        Due.is("1 of 1", x.front(1, 2), -2);
        SkyHeirs y = Due.of("person 1 999 999 999 999;person 2 0 0 0 0;person 3 0 1 0 0;front 3996;");
        Due.is("3996 of 3996", y.front(0, 1), -3997);
        Due.is("3995 of 3996", y.front(0, 2), 3995);
    }

    /** Numbers of one to four digits; five are too much wherever a number can stand. */
    private static void digits() {
        Due.is("one digit", Due.of("front 7;").count(5), 7);
        Due.is("two digits", Due.of("front 07;").count(5), 7);
        Due.is("three digits", Due.of("front 070;").count(5), 70);
        Due.is("four digits", Due.of("front 0700;").count(5), 700);
        String line = "person # # # # #;child # # # # # # #;adopted # # # # # #;wed # #;will # # #;field # # #;front #;law #;";
        for (int at = line.indexOf('#'); at >= 0; at = line.indexOf('#', at + 1)) {
            String words = line.substring(line.lastIndexOf(';', at) + 1, at);
            String fine = TWO + words.replaceFirst("#", "0").replaceFirst("#", "1").replace('#', '1');
            Due.faultAt(fine + "#00000;", 2);
            Due.faultAt(fine + "#00001", 2);
            Due.faultAt(fine + "#10000 ", 2);
            Due.faultAt(fine + "#" + "9".repeat(31), 2);
        }
        Due.faultAt("person 1 2 3 4 #512345;", 2);
        Due.faultAt(ONE + "#12345;", 1);
        Due.faultAt("#12345", 1);
        Due.faultAt("law 9999 #10000;", 1);
    }

    /** Each of the 256 bytes between two tokens, between two numbers, between two parts. */
    private static void bytes() {
        for (int sign = 0; sign < 256; sign++) {
            String between = String.valueOf((char) sign);
            boolean blank = sign == 32 || sign == 10;
            boolean digit = sign >= '0' && sign <= '9';
            boolean letter = sign >= 'a' && sign <= 'z';
            if (blank || digit) {
                SkyHeirs x = Due.of("front" + between + "5;");
                Due.is("front by byte " + sign, x.count(5), blank ? 5 : (sign - '0') * 10 + 5);
            } else {
                Due.fault("front" + between + "5;", 1, letter ? 0 : 5);
            }
            if (digit) {
                Due.is("front", Due.of("front 1" + between + "1;").count(5), 101 + 10 * (sign - '0'));
            } else {
                Due.fault("front 1" + between + "1;", 1, blank || sign == ';' ? 8 : 7);
            }
            if (digit || "+-*/<=".indexOf(sign) >= 0) {
                Due.fault("law 1" + between + "1;", 0, -1);
            } else {
                Due.fault("law 1" + between + "1;", 1, blank || sign == ';' ? 6 : 5);
            }
        }
        Due.faultAt("front 5;#front;", 5);
        Due.fault("law 1or not1and 2;", 0, -1);
        Due.fault("law\n\n1 \n+ 1\n;\n", 0, -1);
        Due.faultAt("law 1 #orand 1;", 1);
        Due.faultAt("law #childor 1;", 3);
        Due.faultAt("law #notnot 1;", 3);
        Due.faultAt("#fronta 5;", 1);
        Due.faultAt("#fro", 1);
    }

    private static void tape() {
        SkyHeirs x = new SkyHeirs();
        for (int i = 1; i <= 35; i++) {
            Due.is("feed", x.feed(0x20202020, 0x20202020, 0x20202020, 0x20202020, 0x20202020), 20 * i);
            Due.is("the tape", x.count(9), 20 * i);
        }
        Due.is("a 36th time", x.feed(-1, -1, -1, -1, -1), -1);
        Due.is("none came", x.count(9), 700);
        Due.illegal("land(701)", () -> x.land(701));
        Due.is("none went", x.count(9), 700);
        Due.is("land(700)", x.land(700), 0);
        Due.is("empty then", x.count(9), 0);
        Due.is("feed anew", x.feed(0, 0, 0, 0, 0), 20);
        Due.is("none of it read", x.land(0), 0);
        Due.is("empty then", x.count(9), 0);
        Due.illegal("land(1)", () -> x.land(1));
        String full = "front 3996;" + " ".repeat(678) + "law 0 + 99;";
        Due.is("bytes", full.length(), 700);
        Due.is("a text of 700 bytes", Due.of(full).count(5), 3996);
    }
}
