import java.util.NoSuchElementException;
import java.util.function.LongSupplier;

/** What the tests share: a call and the answer that is due, and a text fed to an object. */
final class Due {
    static final String NO_SUCH = "NoSuchElementException";
    static final String ILLEGAL = "IllegalArgumentException";
    private static int wrong = 0;
    private static int calls = 0;

    private Due() {
    }

    static void is(String call, long got, long want) {
        calls++;
        if (got != want) {
            wrong++;
            System.out.println(call + " answered " + got + ", due is " + want);
        }
    }

    static void is(String call, boolean got, boolean want) {
        is(call, got ? 1 : 0, want ? 1 : 0);
    }

    static void is(String call, String got, String want) {
        calls++;
        if (!got.equals(want)) {
            wrong++;
            System.out.println(call + " answered " + got + ", due is " + want);
        }
    }

    static void noSuch(String call, LongSupplier run) {
        is(call, answer(run), NO_SUCH);
    }

    static void illegal(String call, LongSupplier run) {
        is(call, answer(run), ILLEGAL);
    }

    /** The number as a text, or the name of what is thrown. */
    static String answer(LongSupplier run) {
        try {
            return Long.toString(run.getAsLong());
        } catch (NoSuchElementException e) {
            return e.getClass() == NoSuchElementException.class ? NO_SUCH : e.toString();
        } catch (IllegalArgumentException e) {
            return e.getClass() == IllegalArgumentException.class ? ILLEGAL : e.toString();
        } catch (RuntimeException e) {
            return e.toString();
        }
    }

    /** Feeds a text, filled up with blanks; how many bytes the tape has then. */
    static int feed(SkyHeirs x, String text) {
        int has = x.count(9);
        for (int from = 0; from < text.length(); from += 20) {
            int[] five = new int[5];
            for (int i = 0; i < 20; i++) {
                int sign = from + i < text.length() ? text.charAt(from + i) & 255 : ' ';
                five[i / 4] = five[i / 4] << 8 | sign;
            }
            has = x.feed(five[0], five[1], five[2], five[3], five[4]);
        }
        return has;
    }

    static int tell(SkyHeirs x, String text) {
        feed(x, text);
        return x.land(text.length());
    }

    /** A new object with a text that has no fault. */
    static SkyHeirs of(String text) {
        SkyHeirs x = new SkyHeirs();
        is("land of \"" + text + "\"", tell(x, text), 0);
        return x;
    }

    /** The text has that fault at that place. */
    static void fault(String text, int fault, int place) {
        SkyHeirs x = new SkyHeirs();
        is("land of \"" + text + "\"", tell(x, text), fault);
        is("fault() of \"" + text + "\"", x.fault(), place);
        is("count(10) of \"" + text + "\"", x.count(10), fault == 0 ? 0 : 1);
    }

    /** The sign '#' marks where the fault stands; it is taken out. */
    static void faultAt(String text, int fault) {
        int place = text.indexOf('#');
        fault(text.substring(0, place) + text.substring(place + 1), fault, place);
    }

    static void end(String test) {
        if (wrong > 0) {
            System.out.println(test + ": " + wrong + " of " + calls + " answers are wrong");
            System.exit(1);
        }
    }
}
