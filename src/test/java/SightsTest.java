import java.util.function.Consumer;

/** Part 4, from both sides: what is SEEN and WHO WAS THERE, SUITORS, A CENTURY, STATUS, AN IMAGE. */
public final class SightsTest {
    private static final String ONE = "person 1 1 1 1 1;";

    public static void main(String[] args) {
        howMuchIsSeen();
        fourAreSeen();
        justSoMuch();
        byPeopleAlone();
        oneSet();
        allSets();
        mostEvenly();
        suitorsHalf();
        suitorsRest();
        suitorsFirst();
        suitorsEdges();
        years();
        draws();
        centuriesOfDays();
        status();
        imageKeeps();
        imageKeepsNot();
        Due.end("SightsTest");
    }

    private static void fits(SkyHeirs x, int... due) {
        for (int what = 0; what < 4; what++) {
            Due.is("fits(" + what + ")", x.fits(what), due[what]);
        }
    }

    private static void howMuchIsSeen() {
        for (int part = 0; part < 4; part++) {
            for (int much : new int[] {0, 1, 9998, 9999}) {
                SkyHeirs x = Due.of(ONE);
                Due.is("see(" + part + ", " + much + ")", x.see(part, much), 1);
                Due.is("how many sets", x.fits(0), much < 2 ? 1 : 0);
                Due.is("the least", x.fits(1), much < 2 ? much : -1);
            }
        }
        SkyHeirs x = Due.of("person 1 999 0 0 0;".repeat(12));
        for (int person = 1; person < 11; person++) {
            x.pawn(person, 0, 0, 999);
        }
        x.pawn(0, 1, 0, 990);
        x.see(0, 9999);
        // 0 has just 9999 then, 1 has 990, 11 has 999
        fits(x, 512, 1, 1, 2);
        x.see(0, 9999);
        fits(x, 512, 1, 1, 2);
    }

    private static void fourAreSeen() {
        SkyHeirs x = Due.of("person 1 1 2 3 4;person 1 10 20 30 40;");
        Due.is("none", x.forget(), -1);
        Due.is("1", x.see(0, 11), 1);
        Due.is("2", x.see(1, 22), 2);
        Due.is("3", x.see(2, 33), 3);
        fits(x, 1, 3, 3, 0);
        Due.is("4", x.see(3, 44), 4);
        fits(x, 1, 3, 3, 0);
        Due.is("a fifth", x.see(3, 44), -1);
        Due.is("a fifth that isn't as told", x.see(3, -1), -1);
        Due.noSuch("a fifth without a part", () -> x.see(4, 1));
        Due.is("two are refused", x.count(12), 2);
        Due.is("4 are seen", x.count(8), 4);
        Due.is("forget", x.forget(), 3);
        Due.is("another fourth", x.see(3, 43), 4);
        fits(x, 0, -1, 0, 0);
        Due.is("forget", x.forget(), 3);
        Due.is("the other three stand", x.fits(0), 1);
        Due.is("forget", x.forget(), 2);
        Due.is("forget", x.forget(), 1);
        Due.is("forget", x.forget(), 0);
        fits(x, 4, 0, 0, 0);
        Due.is("none", x.forget(), -1);
        Due.is("not counted", x.count(12), 2);
        Due.is("anew", x.see(2, 3), 1);
        fits(x, 1, 1, 1, 0);
    }

    private static void justSoMuch() {
        for (int part = 0; part < 4; part++) {
            String sky = " 0".repeat(part) + " 7" + " 0".repeat(3 - part) + ";";
            SkyHeirs x = Due.of(("person 1" + sky).repeat(2) + ONE.replace("1 1 1 1;", "0 0 0 0;"));
            int[][] due = {{0, 2, 0}, {6, 0, -1}, {7, 4, 1}, {8, 0, -1}, {13, 0, -1}, {14, 2, 3}, {15, 0, -1}};
            for (int[] row : due) {
                x.see(part, row[0]);
                Due.is("sets by " + row[0], x.fits(0), row[1]);
                Due.is("the least by " + row[0], x.fits(1), row[2]);
                x.forget();
            }
            x.see((part + 1) % 4, 0);
            Due.is("of another part", x.fits(0), 8);
        }
    }

    /** The sun of noons isn't seen; wherever people are, they may have been there. */
    private static void byPeopleAlone() {
        SkyHeirs x = Due.of("person 1 0 0 0 0;person 1 5 0 0 0;person 2 5 0 0 0;law 0;");
        x.die(0);
        x.see(0, 10);
        fits(x, 1, 0b110, 0b110, 1);
        x.see(0, 15);
        fits(x, 0, -1, 0, 1);
        x.forget();
        x.forget();
        x.see(0, 0);
        fits(x, 1, 0, 0, 1);
    }

    private static void oneSet() {
        SkyHeirs x = Due.of("person 1 1 0 0 0;person 1 2 0 0 0;person 1 4 0 0 0;person 1 8 0 0 0;");
        for (int set = 0; set < 16; set++) {
            x.see(0, set);
            fits(x, 1, set, set, 0);
            x.forget();
        }
        x.see(0, 16);
        fits(x, 0, -1, 0, 0);
    }

    private static void allSets() {
        for (int people = 0; people <= 12; people++) {
            fits(Due.of(ONE.repeat(people)), 1 << people, 0, 0, people > 0 ? 0 : -1);
        }
        SkyHeirs x = Due.of("person 1 1 0 0 0;".repeat(12));
        x.see(0, 12);
        fits(x, 1, 4095, 4095, 0);
        x.forget();
        x.see(0, 11);
        fits(x, 12, 2047, 0, 0);
        x.forget();
        x.see(0, 1);
        fits(x, 12, 1, 0, 0);
        x.forget();
        for (int person = 0; person < 12; person++) {
            x.die(person);
            fits(x, 1 << (11 - person), 0, 0, person < 11 ? person + 1 : -1);
        }
        x.see(3, 1);
        fits(x, 0, -1, 0, -1);
    }

    private static void mostEvenly() {
        // 0 is in none of three sets, 1 in one, 2 in two, 3 in all: {2, 3} or {1, 3} or {2, 4, 3}
        SkyHeirs x = Due.of("person 1 50 0 0 0;person 1 3 0 0 0;person 1 3 0 0 0;person 1 4 0 0 0;person 1 0 0 0 0;");
        x.see(0, 7);
        fits(x, 4, 0b01010, 0b01000, 1);
        x.die(4);
        fits(x, 2, 0b01010, 0b01000, 1);
        x.die(1);
        // one set: nobody splits it, the eldest is asked
        fits(x, 1, 0b01100, 0b01100, 0);
        x.die(0);
        fits(x, 1, 0b01100, 0b01100, 2);
        // the younger one splits 3 by 3, the elder ones 2 by 4 or 1 by 5
        SkyHeirs y = Due.of("person 1 6 0 0 0;person 1 3 0 0 0;person 1 3 0 0 0;person 1 0 0 0 0;");
        y.see(0, 6);
        fits(y, 4, 0b0001, 0, 0);
        SkyHeirs z = Due.of("person 1 4 0 0 0;person 1 1 0 0 0;person 1 2 0 0 0;person 1 1 0 0 0;person 1 0 0 0 0;");
        z.see(0, 4);
        // {0}, {1, 2, 3}, each with 4 or without: all split them evenly
        fits(z, 4, 0b00001, 0, 0);
        z.forget();
        z.see(0, 7);
        // {0, 1, 2}, {0, 2, 3}, with 4 or without: 0 and 2 are in all
        fits(z, 4, 0b00111, 0b00101, 1);
        z.forget();
        z.see(0, 8);
        // all of them: 4 alone splits it
        fits(z, 2, 0b01111, 0b01111, 4);
    }

    private static void suitors(SkyHeirs x, int one, int other, int many, int first) {
        Due.is("suitors(" + one + ", " + other + ", 0)", x.suitors(one, other, 0), many);
        Due.is("suitors(" + one + ", " + other + ", 1)", x.suitors(one, other, 1), first);
        Due.is("suitors(" + other + ", " + one + ", 0)", x.suitors(other, one, 0), many);
    }

    /** Of two fields, the second with nothing: both choose the first if its half is as much or more. */
    private static void suitorsHalf() {
        String land = "person 9 0 0 0 0;person 9 0 0 0 0;person 1 @ 0 0 0;person 2 # 0 0 0;field 1 9999 0;field 2 9999 0;";
        int[][] due = {{10, 4, 1, 0}, {10, 5, 3, 0}, {10, 6, 2, 1}, {11, 4, 1, 0}, {11, 5, 3, 0}, {11, 6, 2, 1},
            {0, 0, 4, 0}, {1, 0, 3, 0}, {1, 1, 2, 1}, {5, 10, 3, 1}, {4, 10, 1, 11}, {6, 10, 2, 1}};
        for (int[] row : due) {
            SkyHeirs x = Due.of(land.replace("@", "" + row[0]).replace("#", "" + row[1]));
            suitors(x, 0, 1, row[2], row[3]);
        }
    }

    /** What is all there: the sun of others, not of both, and 10 for each noon; 5 more where it isn't ripe. */
    private static void suitorsRest() {
        SkyHeirs x = Due.of("person 1 999 0 0 0;person 2 999 0 0 0;person 1 8 99 99 99;person 2 1 0 0 0;person 2 0 0 0 0;"
                + "field 1 9999 0;field 2 9999 0;law 0;");
        // 8 and 1: half of 8 is more than 1
        suitors(x, 0, 1, 1, 0);
        // 8 and 1 without 0 and 3 as suitors: 2 has 8 there, 1 has 999 on the second
        suitors(x, 0, 3, 1, 11);
        x.die(4);
        // 8 and 11
        suitors(x, 0, 1, 2, 1);
        x.die(3);
        // 8 and 20: half of 20 is more
        suitors(x, 0, 1, 1, 11);
        x.undo();
        x.undo();
        x.go(2, 5);
        // 0 and 1: half of 1 is as much as none
        suitors(x, 0, 1, 3, 1);
        // ripe: the 5 fall away
        SkyHeirs y = Due.of("person 9 0 0 0 0;person 9 0 0 0 0;person 1 4 0 0 0;person 2 2 0 0 0;field 1 0 0;field 2 2 0;");
        // 4 (2 for both) on the ripe one, 2 + 5 (1 + 5 for both) on the other one
        suitors(y, 0, 1, 1, 11);
        y.days(1);
        // 4 (2) and 2 (1)
        suitors(y, 0, 1, 3, 0);
        SkyHeirs z = Due.of("person 9 0 0 0 0;person 9 0 0 0 0;person 1 10 0 0 0;field 1 0 0;field 2 1 0;");
        // 10 (5) where it is ripe, 0 + 5 where it isn't
        suitors(z, 0, 1, 3, 0);
        z.pawn(2, 0, 0, 1);
        // 9 (4) and 5
        suitors(z, 0, 1, 2, 1);
        z.pawn(2, 0, 0, 5);
        // 4 (2) and 5 (5)
        suitors(z, 0, 1, 1, 11);
    }

    private static void suitorsFirst() {
        // the third and the fifth hold most, neither half as much as the other
        SkyHeirs x = Due.of("person 9 0 0 0 0;person 9 0 0 0 0;person 3 9 0 0 0;person 5 8 0 0 0;"
                + "field 1 0 0;field 2 0 0;field 3 0 0;field 4 0 0;field 5 0 0;field 6 0 0;");
        suitors(x, 0, 1, 2, 24);
        x.go(3, 6);
        suitors(x, 0, 1, 2, 25);
        x.go(2, 1);
        suitors(x, 0, 1, 2, 5);
        x.go(2, 6);
        x.go(3, 5);
        suitors(x, 0, 1, 2, 45);
        x.go(3, 6);
        suitors(x, 0, 1, 1, 55);
        x.go(2, 0);
        x.go(3, 0);
        // nothing anywhere: every couple rests
        suitors(x, 0, 1, 36, 0);
    }

    private static void suitorsEdges() {
        suitors(Due.of(ONE + ONE), 0, 1, 0, -1);
        suitors(Due.of(ONE + ONE + "field 1 0 0;"), 0, 1, 1, 0);
        suitors(Due.of(ONE + ONE + "field 1 9 9;"), 0, 1, 1, 0);
        SkyHeirs x = Due.of(ONE.repeat(12) + "field 1 9 9;field 2 9 9;");
        // 10 there: half is as much as the 0 elsewhere and more
        suitors(x, 0, 11, 1, 0);
        suitors(x, 10, 11, 1, 0);
    }

    private static void years() {
        SkyHeirs x = Due.of("person 3 0 0 0 0;field 3 600 0;");
        x.die(0);
        Due.is("no year", x.century(1, 0, 1), 0);
        Due.is("59 years of 10 sun", x.century(1, 59, 1), 0);
        Due.is("60 years of 10 sun", x.century(1, 60, 1), 1);
        Due.is("nobody is alive", x.century(1, 60, 0), 0);
        Due.is("the noon stays", x.century(1, 60, 2), 1);
        Due.illegal("61 years", () -> x.century(1, 61, 1));
        Due.illegal("-1 years", () -> x.century(1, -1, 1));
        Due.is("nothing was got", x.field(0, 3), 0);
        x.days(1);
        Due.is("on top of what was got", x.century(1, 59, 1), 1);
        Due.is("on top of what was got", x.century(1, 58, 1), 0);
        SkyHeirs nobody = Due.of("field 3 0 0;field 4 0 1;");
        for (int n : new int[] {0, 1, 60}) {
            Due.is("alive", nobody.century(n, n, 0), 0);
            Due.is("ripe", nobody.century(n, n, 1), 1);
            Due.is("noons", nobody.century(n, n, 2), 0);
        }
    }

    /** Drawn here once more: three who leave nothing to anybody, for seeds at both ends of what an int is. */
    private static void draws() {
        int[] seeds = {0, 1, -1, 2, 12345, -12345, Integer.MAX_VALUE, Integer.MIN_VALUE, 1 << 16, 1 << 30, 1 << 31 | 1,
            0x12345678, 0x89abcdef, -65536, 77};
        for (int people : new int[] {1, 2, 3, 5, 12}) {
            SkyHeirs x = Due.of(ONE.repeat(people) + "law 0;");
            for (int seed : seeds) {
                for (int n : new int[] {1, 7, 60}) {
                    Due.is("alive by " + seed, x.century(seed, n, 0), alive(seed, n, people));
                }
            }
            Due.is("noons", x.century(-5, 60, 2), people - alive(-5, 60, people));
        }
    }

    private static int alive(int seed, int n, int people) {
        long state = seed & 0xffffffffL;
        int dead = 0;
        for (int year = 0; year < n; year++) {
            state = next(state);
            int who = (int) (state / 65536 % 32768 % people);
            state = next(state);
            if ((dead >> who & 1) == 0) {
                state = next(state);
                dead |= state / 65536 % 32768 % 4 == 0 ? 1 << who : 0;
            }
        }
        return people - Integer.bitCount(dead);
    }

    private static long next(long state) {
        return (state * 1103515245L + 12345L) & 0xffffffffL;
    }

    /** He goes, then dies, then the day falls: the noon of the year's death gives its sun at once. */
    private static void centuriesOfDays() {
        for (int seed = 0; seed < 100; seed++) {
            long state = next(next(seed));
            int place = (int) (state / 65536 % 32768 % 10);
            boolean dies = next(state) / 65536 % 32768 % 4 == 0;
            SkyHeirs x = Due.of("person 0 7 0 0 0;field " + place + " 7 0;field " + (place + 1) % 10 + " 1 0;");
            Due.is("alive by " + seed, x.century(seed, 1, 0), dies ? 0 : 1);
            Due.is("a noon by " + seed, x.century(seed, 1, 2), dies ? 1 : 0);
            Due.is("7 or a noon's 10 by " + seed, x.century(seed, 1, 1), 1);
            SkyHeirs y = Due.of("person 0 7 0 0 0;field " + place + " 8 0;");
            Due.is("only a noon's 10 by " + seed, y.century(seed, 1, 1), dies ? 1 : 0);
            Due.is("nobody died", y.count(1), 1);
            Due.is("nobody went", y.person(0, 1), 0);
            Due.is("no day went by", y.field(0, 3), 0);
        }
    }

    private static void counts(SkyHeirs x, int texts, int acts, int seen) {
        Due.is("STATUS 0", x.count(10), texts);
        Due.is("STATUS 1", x.count(11), acts);
        Due.is("STATUS 2", x.count(12), seen);
    }

    private static void status() {
        SkyHeirs x = new SkyHeirs();
        counts(x, 0, 0, 0);
        Due.is("days(0) of a new object", x.days(0), -1);
        Due.is("see of a new object", x.see(0, -1), -1);
        Due.is("a fault", Due.tell(x, ";"), 1);
        counts(x, 1, 1, 1);
        Due.is("a land", Due.tell(x, ONE + ONE), 0);
        counts(x, 1, 1, 1);
        x.go(0, 10);
        x.wed(0, 0);
        x.pawn(0, 0, 0, 1);
        x.days(101);
        counts(x, 1, 5, 1);
        x.die(1);
        x.die(1);
        counts(x, 1, 6, 1);
        Due.tell(x, "!");
        Due.tell(x, "person 10");
        counts(x, 3, 6, 1);
        Due.illegal("land(1)", () -> x.land(1));
        x.undo();
        x.undo();
        x.forget();
        x.restore();
        x.arrange();
        x.seatings();
        Due.illegal("heir(0, 0, 0)", () -> x.heir(0, 0, 0));
        Due.noSuch("go(2, 0)", () -> x.go(2, 0));
        Due.noSuch("see(4, 0)", () -> x.see(4, 0));
        counts(x, 3, 6, 1);
        for (int i = 1; i <= 100; i++) {
            x.see(0, -i);
            x.days(-i);
        }
        counts(x, 3, 106, 101);
        Due.is("an empty land", x.land(0), 0);
        counts(x, 3, 106, 101);
        for (int i = 0; i < 36; i++) {
            x.feed(0, 0, 0, 0, 0);
        }
        counts(x, 3, 106, 101);
    }

    private static SkyHeirs pictured() {
        SkyHeirs x = Due.of("person 1 9 8 7 6;person 2 5 5 5 5;person 3 0 0 0 0;field 1 99 9;law 0;");
        x.see(1, 13);
        x.see(0, -1);
        x.image();
        return x;
    }

    /** Skies, places, who is alive, couples, what fields got, noons, acts, what is seen, STATUS: each by itself. */
    private static void imageKeeps() {
        back("go", x -> x.go(0, 9));
        back("die", x -> x.die(0));
        back("wed", x -> x.wed(1, 2));
        back("pawn", x -> x.pawn(0, 2, 3, 1));
        back("days", x -> x.days(5));
        back("see", x -> x.see(0, 0));
        back("forget", x -> x.forget());
        back("another is seen", x -> {
            x.forget();
            x.see(1, 12);
        });
        back("a refused act", x -> x.days(0));
        back("a refused sight", x -> x.see(1, -1));
        back("a refused text", x -> Due.tell(x, "x"));
    }

    private static void back(String what, Consumer<SkyHeirs> change) {
        SkyHeirs x = pictured();
        String first = ActsTest.shot(x);
        change.accept(x);
        for (int time = 0; time < 2; time++) {
            Due.is(what + ": restore", x.restore(), true);
            Due.is(what + ": as it was", ActsTest.shot(x), first);
            Due.is(what + ": acts", x.count(7), 0);
            Due.is(what + ": one is seen", x.count(8), 1);
            Due.is(what + ": by 0 and 1, or they and 2", x.fits(0), 2);
            counts(x, 0, 0, 1);
            Due.is(what + ": none is undone", x.undo(), -1);
            Due.is(what + ": as it was", ActsTest.shot(x), first);
            change.accept(x);
        }
    }

    /** The tape, the place of a FAULT and the rows that are kept are in no image. */
    private static void imageKeepsNot() {
        SkyHeirs x = Due.of("person 1 5 0 0 0;person 2 5 0 0 0;person 3 5 0 0 0;field 1 5 0;law number = 0;");
        Due.is("none yet", x.restore(), false);
        x.image();
        Due.is("seatings", x.seatings(), 2);
        Due.is("deaths", x.deaths(0, 0, 10), 1);
        Due.is("arrange", x.arrange(), 1);
        Due.tell(x, "field");
        x.feed(0, 0, 0, 0, 0);
        Due.is("restore", x.restore(), true);
        Due.is("seat", x.seat(1), 1);
        Due.is("death", x.death(0), 1);
        Due.is("post", x.post(2), 0);
        Due.is("the place of the fault", x.fault(), 5);
        Due.is("the tape", x.count(9), 20);
        Due.is("STATUS 0", x.count(10), 0);
        x.die(0);
        x.image();
        x.undo();
        Due.is("restore", x.restore(), true);
        Due.is("the latter image", x.person(0, 0), 0);
        Due.is("with its act", x.undo(), 0);
        Due.is("with what was ahead of it", x.person(0, 0), 1);
        Due.is("restore again", x.restore(), true);
        Due.is("the same", x.person(0, 0), 0);
        Due.is("a text with a fault", x.land(20), 1);
        Due.is("the image stays behind a fault", x.restore(), true);
        Due.is("a land", x.land(0), 0);
        Due.is("the image is gone", x.restore(), false);
        x.image();
        Due.is("an image of nobody", x.restore(), true);
        Due.is("nobody", x.count(0), 0);
    }
}
