/** Promises 32 and 33: image, restore. */
public final class ImageTest {
    public static void main(String[] args) {
        kept();
        another();
        actsThatAreKept();
        rowsStay();
        Due.end("ImageTest");
    }

    private static void kept() {
        SkyHeirs x = Due.of(StateTest.LAND);
        Due.is("there is none", x.restore(), false);
        x.go(0, 5);
        x.days(2);
        x.see(0, 110);
        x.see(3, 10000);
        x.go(0, 11);
        Due.tell(x, "wed");
        String then = ActsTest.shot(x);
        x.image();
        x.die(0);
        x.wed(1, 4);
        x.days(9);
        x.pawn(4, 3, 1, 1);
        x.die(4);
        x.forget();
        x.see(1, 1);
        x.see(1, 2);
        x.see(1, -2);
        x.go(0, 11);
        Due.tell(x, "wed 5");
        Due.is("restore", x.restore(), true);
        Due.is("all is as it was", ActsTest.shot(x), then);
        Due.is("acts", x.count(7), 2);
        Due.is("seen", x.count(8), 1);
        Due.is("what is seen", x.fits(1), 0b101);
        Due.is("status 0", x.count(10), 1);
        Due.is("status 1", x.count(11), 1);
        Due.is("status 2", x.count(12), 1);
        Due.is("undo", x.undo(), 1);
        Due.is("got", x.field(1, 3), 0);
        Due.is("undo", x.undo(), 0);
        Due.is("place", x.person(0, 1), 1);
        Due.is("restore once more", x.restore(), true);
        Due.is("all is as it was", ActsTest.shot(x), then);
        Due.is("undo", x.undo(), 1);
    }

    private static void another() {
        SkyHeirs x = Due.of("person 0 1 1 1 1;");
        x.image();
        x.go(0, 1);
        x.image();
        x.go(0, 2);
        Due.is("restore", x.restore(), true);
        Due.is("the latter one", x.person(0, 1), 1);
        for (int i = 0; i < 50; i++) {
            x.go(0, i % 7);
        }
        x.image();
        for (int i = 0; i < 30; i++) {
            x.undo();
        }
        x.go(0, 9);
        Due.is("restore", x.restore(), true);
        Due.is("acts", x.count(7), 40);
        for (int i = 48; i >= 9; i--) {
            x.undo();
            Due.is("undone " + i, x.person(0, 1), i % 7);
        }
        Due.is("none is left", x.undo(), -1);
        Due.tell(x, "person 0 1 1 1 1;");
        Due.is("gone with the land", x.restore(), false);
    }

    /** Acts behind the image, on other places, must not show when those of the image are undone. */
    private static void actsThatAreKept() {
        SkyHeirs x = Due.of("person 0 1 1 1 1;");
        for (int i = 0; i < 47; i++) {
            x.go(0, i % 7);
        }
        x.image();
        for (int i = 0; i < 25; i++) {
            x.undo();
        }
        for (int i = 0; i < 36; i++) {
            x.go(0, 9);
        }
        Due.is("restore", x.restore(), true);
        for (int time = 0; time < 2; time++) {
            for (int i = 45; i >= 6; i--) {
                Due.is("left", x.undo(), i - 6);
                Due.is("undone " + i, x.person(0, 1), i % 7);
            }
            Due.is("none is left", x.undo(), -1);
            x.go(0, 8);
            x.go(0, 9);
            Due.is("restore once more", x.restore(), true);
        }
        for (int i = 0; i < 100; i++) {
            x.go(0, 8);
        }
        Due.tell(x, "person 3 1 1 1 1;");
        Due.is("a new land has no acts", x.undo(), -1);
        x.go(0, 5);
        x.image();
        x.undo();
        x.restore();
        Due.is("undo", x.undo(), 0);
        Due.is("as told", x.person(0, 1), 3);
    }

    private static void rowsStay() {
        SkyHeirs x = Due.of("person 0 1 1 1 1;person 0 1 1 1 1;person 0 1 1 1 1;field 0 3 0;law 1;");
        x.image();
        x.feed(0, 0, 0, 0, 0);
        x.arrange();
        x.seatings();
        Due.is("deaths", x.deaths(0, 0, 2), 1);
        Due.is("restore", x.restore(), true);
        Due.is("post", x.post(2), 0);
        Due.is("seat", x.seat(2), 2);
        Due.is("death", x.death(0), 1);
        Due.is("tape", x.count(9), 20);
    }
}
