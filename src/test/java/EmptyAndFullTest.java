/** The two ends: nobody at all, fields without people, all of them dead; and as much of everything as there may be. */
public final class EmptyAndFullTest {
    public static void main(String[] args) {
        nobody(new SkyHeirs(), "a new object");
        nobody(Due.of(""), "an empty land");
        nobody(Due.of(" \n"), "a land of blanks");
        SkyHeirs behind = Due.of("person 1 2 3 4 5;person 1 2 3 4 5;wed 0 1;will 0 1 5;field 1 1 1;front 5;law 1;");
        Due.is("an empty land behind another one", behind.land(0), 0);
        nobody(behind, "an empty land behind another one");
        fieldsAlone();
        allDead();
        oneAlone();
        twelve();
        others();
        failingAll();
        fewOfTwelve();
        Due.end("EmptyAndFullTest");
    }

    private static void nobody(SkyHeirs x, String which) {
        int[] counts = {0, 0, 0, 0, 0, 300, 0, 0, 0, 0, 0, 0, 0};
        for (int what = 0; what < counts.length; what++) {
            Due.is(which + ": count(" + what + ")", x.count(what), counts[what]);
        }
        Due.is(which + ": fault()", x.fault(), -1);
        noPerson(x, 0, which);
        Due.noSuch(which + ": field(0, 0)", () -> x.field(0, 0));
        for (int place = 0; place < 10; place++) {
            for (int what = 0; what < 7; what++) {
                Due.is(which + ": weather", x.weather(place, what), what == 4 ? 4 : 0);
            }
        }
        Due.is(which + ": undo", x.undo(), -1);
        Due.is(which + ": forget", x.forget(), -1);
        Due.is(which + ": restore", x.restore(), false);
        Due.is(which + ": failing", x.failing(), 0);
        Due.is(which + ": seatings", x.seatings(), -2);
        Due.noSuch(which + ": seat(0)", () -> x.seat(0));
        Due.noSuch(which + ": death(0)", () -> x.death(0));
        Due.is(which + ": arrange", x.arrange(), 0);
        int[] fits = {1, 0, 0, -1};
        for (int what = 0; what < 4; what++) {
            Due.is(which + ": fits(" + what + ")", x.fits(what), fits[what]);
        }
        Due.is(which + ": see", x.see(0, 0), 1);
        Due.is(which + ": nobody gives nothing", x.fits(0), 1);
        Due.is(which + ": see", x.see(0, 1), 2);
        Due.is(which + ": nobody gives 1", x.fits(0), 0);
        Due.is(which + ": the least", x.fits(1), -1);
        Due.is(which + ": whom to ask", x.fits(3), -1);
        for (int what = 0; what < 3; what++) {
            Due.is(which + ": century", x.century(3, 60, what), 0);
        }
        x.image();
        Due.is(which + ": days", x.days(100), 0);
        Due.is(which + ": an act", x.count(7), 1);
        Due.is(which + ": restore", x.restore(), true);
        Due.is(which + ": no act", x.count(7), 0);
        Due.is(which + ": seen", x.count(8), 2);
        Due.is(which + ": feed", x.feed(0, 0, 0, 0, 0), 20);
    }

    private static void noPerson(SkyHeirs x, int who, String which) {
        Due.noSuch(which + ": person", () -> x.person(who, 0));
        Due.noSuch(which + ": sky", () -> x.sky(who, 0));
        Due.noSuch(which + ": front", () -> x.front(who, who));
        Due.noSuch(which + ": kin", () -> x.kin(who, who));
        Due.noSuch(which + ": go", () -> x.go(who, 0));
        Due.noSuch(which + ": wed", () -> x.wed(who, who) ? 1 : 0);
        Due.noSuch(which + ": die", () -> x.die(who));
        Due.noSuch(which + ": pawn", () -> x.pawn(who, who, 0, 1));
        Due.noSuch(which + ": heir", () -> x.heir(who, who, 0));
        Due.noSuch(which + ": contested", () -> x.contested(who));
        Due.noSuch(which + ": deaths", () -> x.deaths(who, 0, 1));
        Due.noSuch(which + ": post", () -> x.post(who));
        Due.noSuch(which + ": suitors", () -> x.suitors(who, who, 0));
    }

    private static void fieldsAlone() {
        SkyHeirs x = Due.of("field 3 0 0;field 4 0 1;field 5 1 0;law 1;");
        noPerson(x, 0, "fields alone");
        Due.is("one that wants nothing is ripe", x.count(4), 1);
        Due.is("days", x.days(100), 1);
        Due.is("nothing falls", x.field(2, 3), 0);
        Due.is("arrange", x.arrange(), 1);
        Due.noSuch("nobody has a post", () -> x.post(0));
        Due.is("a century", x.century(1, 60, 1), 1);
    }

    private static void allDead() {
        SkyHeirs x = Due.of("person 3 5 5 5 5;person 3 1 0 0 0;person 4 2 0 0 0;wed 0 1;will 2 0 5;"
                + "field 3 15 0;field 4 1 0;law 0;");
        for (int person = 0; person < 3; person++) {
            Due.is("lost", x.die(person), 0);
        }
        int[] counts = {3, 0, 1, 2, 0, 300, 3, 3};
        for (int what = 0; what < counts.length; what++) {
            Due.is("count(" + what + ")", x.count(what), counts[what]);
        }
        for (int person = 0; person < 3; person++) {
            int who = person;
            int[] due = {0, -1, 0, -1, -1, 0, person == 0 ? 1 : person == 1 ? 0 : -1};
            for (int what = 0; what < 7; what++) {
                Due.is("person(" + person + ", " + what + ")", x.person(person, what), due[what]);
            }
            for (int part = 0; part < 4; part++) {
                Due.is("sky", x.sky(person, part), 0);
            }
            Due.is("contested", x.contested(person), 0);
            Due.is("die", x.die(person), -1);
            Due.is("go", x.go(person, 3), -1);
            Due.illegal("deaths", () -> x.deaths(who, 0, 1));
            Due.illegal("heir", () -> x.heir(who, (who + 1) % 3, 0));
            Due.illegal("front", () -> x.front(who, (who + 1) % 3));
            Due.illegal("suitors", () -> x.suitors(who, (who + 1) % 3, 0));
        }
        Due.is("kin", x.kin(0, 1), 1);
        Due.is("kin", x.kin(0, 2), -1);
        Due.is("failing", x.failing(), 0);
        Due.is("seatings", x.seatings(), -2);
        Due.is("arrange by noons", x.arrange(), 2);
        Due.noSuch("nobody was alive then", () -> x.post(0));
        int[] fits = {1, 0, 0, -1};
        for (int what = 0; what < 4; what++) {
            Due.is("fits(" + what + ")", x.fits(what), fits[what]);
        }
        int[] there = {20, 0, 0, 0, 0, 0, 2};
        for (int what = 0; what < 7; what++) {
            Due.is("weather(3, " + what + ")", x.weather(3, what), there[what]);
        }
        Due.is("days of noons", x.days(1), 2);
        Due.is("days of noons", x.field(1, 3), 10);
        int[] century = {0, 2, 3};
        for (int what = 0; what < 3; what++) {
            Due.is("century", x.century(9, 60, what), century[what]);
        }
    }

    private static void oneAlone() {
        SkyHeirs x = Due.of("person 3 5 5 5 5;field 3 5 5;");
        Due.noSuch("person(1, 0)", () -> x.person(1, 0));
        Due.is("kin", x.kin(0, 0), 0);
        Due.illegal("front", () -> x.front(0, 0));
        Due.illegal("heir", () -> x.heir(0, 0, 0));
        Due.illegal("suitors", () -> x.suitors(0, 0, 0));
        Due.is("contested", x.contested(0), 0);
        Due.is("failing", x.failing(), 0);
        Due.is("arrange", x.arrange(), 1);
        Due.is("post", x.post(0), 0);
        Due.is("seatings", x.seatings(), -2);
        Due.is("fits", x.fits(0), 2);
        Due.is("wed", x.wed(0, 0), false);
        Due.is("pawn", x.pawn(0, 0, 0, 1), -1);
        Due.is("die", x.die(0), 0);
        Due.is("nobody", x.count(1), 0);
    }

    /** Twelve people, six couples, twelve wills, six fields, a front and a law. */
    private static String most() {
        StringBuilder text = new StringBuilder();
        for (int person = 0; person < 12; person++) {
            text.append(person < 2 ? "person" : person % 2 == 0 ? "child 0 1" : "adopted 1").append(' ').append(person % 3);
            text.append(' ').append(10 + person).append(' ').append(30 - person).append(' ').append(person).append(" 9;");
        }
        for (int couple = 0; couple < 6; couple++) {
            text.append("wed ").append(couple).append(' ').append(11 - couple).append(';');
            text.append("field ").append(couple + 2).append(" 40 60;");
        }
        for (int owner = 0; owner < 12; owner++) {
            text.append("will ").append(owner).append(' ').append((owner + 4) % 12).append(' ').append(owner + 1).append(';');
        }
        return text.append("front 20;law (number + 1) * here;").toString();
    }

    private static void twelve() {
        SkyHeirs x = Due.of(most());
        int[] counts = {12, 12, 12, 6, 0, 20, 0, 0, 0, 0, 0, 0, 0};
        for (int what = 0; what < counts.length; what++) {
            Due.is("count(" + what + ")", x.count(what), counts[what]);
        }
        // places 0, 1 and 2 have four each: 0 3 6 9, 1 4 7 10, 2 5 8 11
        for (int place = 0; place < 10; place++) {
            int first = place < 3 ? 4 * 10 + 4 * place + 18 : 0;
            int second = place < 3 ? 4 * 30 - 4 * place - 18 : 0;
            int third = place < 3 ? 4 * place + 18 : 0;
            int[] due = {first, second, third, place < 3 ? 36 : 0, place < 3 ? 1 : 4, place < 3 ? 4 : 0, 0};
            for (int what = 0; what < 7; what++) {
                Due.is("weather(" + place + ", " + what + ")", x.weather(place, what), due[what]);
            }
        }
        for (int person = 0; person < 12; person++) {
            Due.is("couple", x.person(person, 6), 11 - person);
            Due.is("kin", x.kin(person, 11 - person), 1);
            Due.is("by will alone", x.heir(person, (person + 4) % 12, 1), 30 - person);
        }
        Due.is("3 apart in each of three parts", x.front(4, 7), 9);
        Due.is("6 apart in each of three parts", x.front(1, 7), 18);
        Due.is("7 apart in each of three parts", x.front(0, 7), -22);
        Due.is("sets", x.fits(0), 4096);
        Due.is("nobody is contested by one who has less", x.contested(0), 1 << 3 | 1 << 6 | 1 << 9);
        Due.is("spent", x.arrange(), -2);
        Due.is("spent", x.seatings(), -2);
        Due.is("all rain of three", x.deaths(4, 1, 26 + 30 + 22), 2);
        Due.is("first", x.death(0), 8);
        Due.is("then", x.death(1), 0);
        Due.is("the field at place 2", x.days(2), 1);
        Due.is("got sun", x.field(0, 3), 2 * (40 + 8 + 18));
        Due.is("got rain", x.field(0, 4), 2 * (120 - 8 - 18));
    }

    /** With twelve, what one does changes nothing of the others, the first and the last of them neither. */
    private static void others() {
        for (int one = 0; one < 12; one++) {
            int other = (one + 5) % 12;
            SkyHeirs x = Due.of("person 1 2 3 4 5;".repeat(12) + "field 9 1 1;law 0;");
            Due.is("wed", x.wed(one, other), true);
            Due.is("go", x.go(one, 8), 1);
            Due.is("pawn", x.pawn(one, other, 3, 5), 10);
            Due.is("die", x.die(one), 0);
            for (int person = 0; person < 12; person++) {
                boolean dead = person == one;
                int[] due = {dead ? 0 : 1, dead ? -1 : 1, 0, -1, -1, 0, dead ? other : person == other ? one : -1};
                for (int what = 0; what < 7; what++) {
                    Due.is("person(" + person + ", " + what + ")", x.person(person, what), due[what]);
                }
                int[] sky = {2, 3, 4, person == other ? 10 : 5};
                for (int part = 0; part < 4; part++) {
                    Due.is("sky(" + person + ", " + part + ")", x.sky(person, part), dead ? 0 : sky[part]);
                }
            }
            Due.is("the noon", x.weather(8, 6), 1);
            Due.is("the only noon", x.count(6), 1);
            Due.is("the field", x.field(0, 3) + x.field(0, 4), 0);
            for (int left = 3; left >= 0; left--) {
                Due.is("undo", x.undo(), left);
            }
            for (int person = 0; person < 12; person++) {
                Due.is("as it was", x.person(person, 1) * 10000 + x.person(person, 6) * 100 + x.sky(person, 3), 9905);
            }
        }
    }

    private static void failingAll() {
        StringBuilder text = new StringBuilder("person 1 2 3 4 5;".repeat(12) + "field 9 1 1;law 0;");
        for (int owner = 1; owner < 12; owner++) {
            text.append("will ").append(owner).append(" 0 1;");
        }
        SkyHeirs x = Due.of(text + "will 0 11 1;");
        Due.is("none", x.failing(), 0);
        x.die(0);
        Due.is("eleven", x.failing(), 4094);
        x.undo();
        x.die(11);
        Due.is("one", x.failing(), 1);
    }

    /** Of twelve, all wed, six are alive: the searches know these six alone. */
    private static void fewOfTwelve() {
        StringBuilder text = new StringBuilder("person 9 3 0 0 0;".repeat(12) + "field 5 17 0;law 0;");
        for (int couple = 0; couple < 6; couple++) {
            text.append("wed ").append(couple).append(' ').append(couple + 6).append(';');
        }
        SkyHeirs x = Due.of(text.toString());
        for (int person = 11; person > 6; person--) {
            x.die(person);
        }
        Due.is("seven round a table", x.seatings(), 720);
        for (int i = 0; i < 7; i++) {
            Due.is("seat", x.seat(i), i);
        }
        x.die(6);
        Due.is("six round a table", x.seatings(), 120);
        Due.is("six are enough", x.arrange(), 1);
        for (int person = 0; person < 6; person++) {
            Due.is("post", x.post(person), 0);
        }
        Due.is("sets", x.fits(0), 64);
        x.see(0, 9);
        Due.is("three of six", x.fits(0), 20);
        x.die(5);
        Due.is("five are not", x.arrange(), 0);
        Due.is("three of five", x.fits(0), 10);
        Due.is("none leaves him anything", x.deaths(0, 0, 4), -1);
        int[] there = {15 + 70, 0, 0, 0, 0, 5, 7};
        for (int what = 0; what < 7; what++) {
            Due.is("weather(9, " + what + ")", x.weather(9, what), there[what]);
        }
    }
}
