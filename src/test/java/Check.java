import java.io.IOException;
import java.nio.file.Files;
import java.nio.file.Path;

/** What the tests share: telling texts, looking at objects, and comparing what was answered with what is due. */
abstract class Check {
    static final int NONE = RipePromises.NONE, UNKNOWN = RipePromises.UNKNOWN, OUTSIDE = RipePromises.OUTSIDE;
    static final int NOT = RipePromises.NOT, FULL = RipePromises.FULL;

    /** Town 3 has no way. Promise 0 may be kept on days 5 to 7, 1 on day 3, 2 from 4 days behind the keeping of 0 on. */
    static final String PLAIN = "t4;r0 1 2;r1 2 3;r0 2 9;k0 0;k2 1;p0 1 5 2 5 9;p1 2 3 0 4 9;p0 2 4 3 5 0;";

    private static final String DOCUMENT = document();
    private static int passed, failed;
    private static String about = "";

    static void is(String what, long got, long due) {
        if (got == due) {
            passed++;
        } else {
            failed++;
            System.out.println(about + ": " + what + " answered " + got + ", due is " + due);
        }
    }

    /** Each row is what the calls of one line answered, then what is due. */
    static void are(String what, int[] got, int... due) {
        for (int i = 0; i < Math.max(got.length, due.length); i++) {
            is(what + " [" + i + "]", i < got.length ? got[i] : -77, i < due.length ? due[i] : -78);
        }
    }

    static int[] row(int... all) {
        return all;
    }

    static void about(String what, Runnable test) {
        about = what;
        test.run();
    }

    /** A test of one sentence of the document: the words have to stand there, so that a test is not left behind by them. */
    static void sentence(String words, Runnable test) {
        about = "\"" + words + "\"";
        is("does the document say so?", DOCUMENT.contains(words) ? 1 : 0, 1);
        test.run();
    }

    static void end(String name) {
        System.out.println(name + ": " + passed + " passed, " + failed + " failed");
        if (failed > 0) {
            System.exit(1);
        }
    }

    private static String document() {
        try {
            return Files.readString(Path.of("..", "shared", "DOC.md")).replaceAll("\\s+", " ");
        } catch (IOException e) {
            throw new IllegalStateException("the tests are run beside ../shared", e);
        }
    }

    // ---- texts

    static void feedAll(RipePromises x, String text) {
        for (int i = 0; i < text.length(); i++) {
            x.feed(text.charAt(i));
        }
    }

    static int tell(RipePromises x, String text) {
        feedAll(x, text);
        return x.land();
    }

    static RipePromises on(String text) {
        RipePromises x = new RipePromises();
        int towns = tell(x, text);
        if (towns < 0) {
            is("the text " + text, towns, 0);
        }
        return x;
    }

    static void faulty(String text, int kind, int place) {
        RipePromises x = new RipePromises();
        are("the fault of " + text, row(tell(x, text), x.fault()), -10 - kind, place);
    }

    static void sound(String text, int towns) {
        RipePromises x = new RipePromises();
        are("no fault in " + text, row(tell(x, text), x.fault()), towns, NONE);
    }

    // ---- what an object shows

    static int[] toldAll(RipePromises x) {
        int[] all = new int[13];
        for (int i = 0; i < all.length; i++) {
            all[i] = x.told(i);
        }
        return all;
    }

    static int[] promiseAll(RipePromises x, int p) {
        int[] all = new int[9];
        for (int i = 0; i < all.length; i++) {
            all[i] = x.promise(p, i);
        }
        return all;
    }

    static int[] keeperAll(RipePromises x, int k) {
        return row(x.keeper(k, 0), x.keeper(k, 1), x.keeper(k, 2), x.keeper(k, 3));
    }

    static int[] planAll(RipePromises x, int k) {
        return row(x.plan(k, NONE), x.plan(k, 0), x.plan(k, 1), x.plan(k, 2), x.plan(k, 3));
    }

    static int[] sets(RipePromises x) {
        return row(x.told(6), x.told(7), x.told(8), x.told(9));
    }

    // ---- days

    /** As many calls of day as it takes. */
    static void daysTo(RipePromises x, int day) {
        while (x.told(5) < day) {
            x.day(Math.min(99, day - x.told(5)));
        }
    }

    /** The least seed behind which the draws of so many are these. */
    static int seedFor(int of, int... draws) {
        for (int v = 0;; v++) {
            long seed = v;
            int fit = 0;
            while (fit < draws.length) {
                seed = (seed * 1103515245L + 12345L) % 2147483648L;
                if (seed / 65536 % of != draws[fit]) {
                    break;
                }
                fit++;
            }
            if (fit == draws.length) {
                return v;
            }
        }
    }
}
