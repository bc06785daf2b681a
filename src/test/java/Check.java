import java.util.NoSuchElementException;

/** What all tests need: answers compared, exceptions awaited, texts fed. */
final class Check {
    interface Call {
        long run();
    }

    private int right = 0;
    private int wrong = 0;

    void same(String what, long got, long due) {
        if (got == due) {
            right++;
        } else {
            wrong++;
            System.out.println(what + " answered " + got + ", due is " + due);
        }
    }

    void isTrue(String what, boolean got) {
        same(what, got ? 1 : 0, 1);
    }

    void isFalse(String what, boolean got) {
        same(what, got ? 1 : 0, 0);
    }

    void noSuch(String what, Call call) {
        same(what + " throws", thrownBy(call), 1);
    }

    void illegal(String what, Call call) {
        same(what + " throws", thrownBy(call), 2);
    }

    /** 0 nothing, 1 NoSuchElementException, 2 IllegalArgumentException, 3 anything else. */
    static int thrownBy(Call call) {
        try {
            call.run();
            return 0;
        } catch (RuntimeException e) {
            return kindOf(e);
        }
    }

    static int kindOf(RuntimeException e) {
        if (e.getClass() == NoSuchElementException.class) {
            return 1;
        }
        return e.getClass() == IllegalArgumentException.class ? 2 : 3;
    }

    void end(String name) {
        System.out.println(name + ": " + right + " answers as due, " + wrong + " not");
        if (wrong != 0 || right == 0) {
            System.exit(1);
        }
    }

    /** Feeds a text of signs 0 to 255, with blanks behind it up to a multiple of 20 bytes. */
    static void feed(MarginWays x, String text) {
        for (int from = 0; from < text.length(); from += 20) {
            int[] n = new int[5];
            for (int i = 0; i < 20; i++) {
                int sign = from + i < text.length() ? text.charAt(from + i) : ' ';
                n[i / 4] = n[i / 4] << 8 | sign;
            }
            x.feed(n[0], n[1], n[2], n[3], n[4]);
        }
    }

    static int cellar(MarginWays x, String text) {
        feed(x, text);
        return x.cellar(text.length());
    }

    /** A new object with a text that has no fault. */
    static MarginWays told(String text) {
        MarginWays x = new MarginWays();
        int fault = cellar(x, text);
        if (fault != 0) {
            throw new IllegalStateException("fault " + fault + " at " + x.fault() + " of: " + text);
        }
        return x;
    }
}
