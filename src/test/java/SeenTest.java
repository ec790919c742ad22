/** Promises 27 to 29: see, forget, fits. */
public final class SeenTest {
    public static void main(String[] args) {
        seeing();
        forgetting();
        fitting();
        askNext();
        ofThoseAlive();
        Due.end("SeenTest");
    }

    private static void seeing() {
        SkyHeirs x = Due.of("person 0 1 1 1 1;");
        Due.is("see", x.see(0, 0), 1);
        Due.is("see", x.see(3, 9999), 2);
        Due.is("below 0", x.see(0, -1), -1);
        Due.is("more than 9999", x.see(0, 10000), -1);
        Due.is("see", x.see(0, 0), 3);
        Due.is("see", x.see(1, 5), 4);
        Due.is("a fifth", x.see(1, 5), -1);
        Due.is("refused", x.count(12), 3);
        Due.is("seen", x.count(8), 4);
        Due.noSuch("see(4, 0)", () -> x.see(4, 0));
        Due.noSuch("see(-1, -1)", () -> x.see(-1, -1));
        Due.is("an exception isn't counted", x.count(12), 3);
        Due.is("no act", x.count(7), 0);
    }

    private static void forgetting() {
        SkyHeirs x = Due.of("person 0 1 2 1 1;");
        Due.is("none", x.forget(), -1);
        Due.is("not counted", x.count(12), 0);
        x.see(0, 1);
        x.see(1, 3);
        Due.is("none fits", x.fits(0), 0);
        Due.is("forget the last one", x.forget(), 1);
        Due.is("the first one is left", x.fits(0), 1);
        Due.is("he was there", x.fits(1), 1);
        Due.is("seen anew", x.see(1, 2), 2);
        Due.is("both fit", x.fits(0), 1);
        Due.is("forget", x.forget(), 1);
        Due.is("forget", x.forget(), 0);
        Due.is("forget", x.forget(), -1);
    }

    private static void fits(SkyHeirs x, int sets, int least, int all, int ask) {
        Due.is("fits(0)", x.fits(0), sets);
        Due.is("fits(1)", x.fits(1), least);
        Due.is("fits(2)", x.fits(2), all);
        Due.is("fits(3)", x.fits(3), ask);
    }

    private static void fitting() {
        fits(new SkyHeirs(), 1, 0, 0, -1);
        SkyHeirs x = Due.of("person 0 1 0 0 0;person 1 2 1 0 0;person 2 3 0 0 0;person 3 4 1 0 0;person 4 0 0 0 0;");
        fits(x, 32, 0, 0, 0);
        x.see(0, 0);
        fits(x, 2, 0, 0, 4);
        x.forget();
        x.see(0, 6);
        // 0 1 2, 1 3, each with 4 or without
        fits(x, 4, 0b00111, 0b00010, 0);
        x.see(1, 1);
        fits(x, 2, 0b00111, 0b00111, 4);
        x.see(1, 2);
        fits(x, 0, -1, 0, 0);
        x.forget();
        x.forget();
        x.forget();
        x.see(0, 10);
        fits(x, 2, 0b01111, 0b01111, 4);
        x.forget();
        x.see(0, 11);
        fits(x, 0, -1, 0, 0);
        x.forget();
        x.see(3, 0);
        x.see(2, 0);
        fits(x, 32, 0, 0, 0);
        Due.noSuch("fits(4)", () -> x.fits(4));
        Due.noSuch("fits(-1)", () -> x.fits(-1));
        SkyHeirs y = Due.of("person 0 0 0 0 0;".repeat(12));
        fits(y, 4096, 0, 0, 0);
        SkyHeirs z = Due.of("person 0 999 0 0 0;".repeat(11));
        z.see(0, 9990);
        fits(z, 11, 0b1111111111, 0, 0);
    }

    private static void askNext() {
        SkyHeirs x = Due.of("person 0 1 0 0 0;person 0 2 0 0 0;person 0 3 0 0 0;person 0 3 0 0 0;person 0 6 0 0 0;");
        x.see(0, 6);
        // {0, 1, 2}, {0, 1, 3}, {2, 3}, {4}
        fits(x, 4, 0b00111, 0, 0);
        x.forget();
        x.see(0, 4);
        // {0, 2}, {0, 3}: 0 is in both, 1 in none, 2 in one of them
        fits(x, 2, 0b00101, 0b00001, 2);
        x.forget();
        x.see(0, 9);
        // {0, 1, 4}, {2, 4}, {3, 4}, {0, 1, 2, 3}: 0 is in two
        fits(x, 4, 0b01111, 0, 0);
        x.forget();
        x.see(0, 3);
        // {0, 1}, {2}, {3}: 1 of 3 is as even as 2 of 3
        fits(x, 3, 0b00011, 0, 0);
    }

    private static void ofThoseAlive() {
        SkyHeirs x = Due.of("person 0 5 0 0 0;person 0 5 0 0 0;person 0 0 0 0 0;law 0;");
        x.see(0, 5);
        fits(x, 4, 1, 0, 0);
        x.die(0);
        fits(x, 2, 0b010, 0b010, 2);
        x.die(1);
        fits(x, 0, -1, 0, 2);
        x.die(2);
        fits(x, 0, -1, 0, -1);
        x.forget();
        fits(x, 1, 0, 0, -1);
    }
}
