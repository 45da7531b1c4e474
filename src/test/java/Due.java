import java.nio.charset.StandardCharsets;

/** Counts answers that are not as due, and puts texts on the tape. */
final class Due {
    private static int wrong = 0;
    private static int asked = 0;

    private Due() {
    }

    static void due(String call, long got, long want) {
        asked++;
        if (got != want) {
            wrong++;
            if (wrong <= 60) {
                System.out.println(call + " answered " + got + ", due is " + want);
            }
        }
    }

    static int wrong() {
        return wrong;
    }

    static void finish(String name) {
        System.out.println(name + ": " + asked + " answers, " + wrong + " not as due");
        if (wrong != 0) {
            System.exit(1);
        }
    }

    static void put(CustomValley x, String text) {
        put(x, text.getBytes(StandardCharsets.ISO_8859_1));
    }

    static void put(CustomValley x, byte[] bytes) {
        x.end(0);
        for (int i = 0; i < bytes.length; i += 20) {
            int[] five = new int[5];
            for (int j = 0; j < 20; j++) {
                int b = i + j < bytes.length ? bytes[i + j] & 255 : 0;
                five[j / 4] = five[j / 4] << 8 | b;
            }
            x.feed(five[0], five[1], five[2], five[3], five[4]);
        }
        x.end(bytes.length);
    }

    static int read(CustomValley x, String text) {
        put(x, text);
        return x.valley();
    }

    static CustomValley of(String text) {
        CustomValley x = new CustomValley();
        int got = read(x, text);
        if (got < 0) {
            due("valley() of " + text, got, 0);
        }
        return x;
    }
}
