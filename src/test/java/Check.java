import java.nio.charset.StandardCharsets;

/** What the tests share: counting wrong answers, and texts on the tape. */
final class Check {
    private static int wrong = 0;
    private static int calls = 0;

    private Check() { }

    interface Call {
        void run();
    }

    static void is(String what, long got, long want) {
        calls++;
        if (got != want) {
            wrong++;
            System.out.println(what + " answered " + got + ", due is " + want);
        }
    }

    static void yes(String what, boolean holds) {
        is(what, holds ? 1 : 0, 1);
    }

    static void throwsA(Class<? extends RuntimeException> due, String what, Call call) {
        calls++;
        Class<?> got = null;
        try {
            call.run();
        } catch (RuntimeException e) {
            got = e.getClass();
        }
        if (got != due) {
            wrong++;
            System.out.println(what + " threw " + got + ", due is " + due);
        }
    }

    static void end(String name) {
        System.out.println(name + ": " + calls + " answers, " + wrong + " not as due");
        if (wrong != 0) {
            System.exit(1);
        }
    }

    static int[] ints(String text) {
        byte[] bytes = text.getBytes(StandardCharsets.ISO_8859_1);
        int[] all = new int[(bytes.length + 19) / 20 * 5];
        for (int i = 0; i < all.length * 4; i++) {
            int b = i < bytes.length ? bytes[i] & 255 : ' ';
            all[i / 4] = all[i / 4] << 8 | b;
        }
        return all;
    }

    static void feed(TillTheBell x, String text) {
        int[] all = ints(text);
        for (int i = 0; i < all.length; i += 5) {
            x.feed(all[i], all[i + 1], all[i + 2], all[i + 3], all[i + 4]);
        }
    }

    static int tell(TillTheBell x, String text) {
        feed(x, text);
        return x.town(text.length());
    }

    static TillTheBell of(String text) {
        TillTheBell x = new TillTheBell();
        int lines = tell(x, text);
        yes("a good text: " + text, lines >= 0);
        return x;
    }

    static void fill(TillTheBell x, int tray, int sort, long... numbers) {
        x.tray(tray, sort, numbers.length);
        for (int i = 0; i < numbers.length; i++) {
            x.write(tray, i, numbers[i]);
        }
    }
}
