/** What the tests share: counting wrong answers, and feeding texts. */
final class Check {
    private static int wrong = 0;
    private static String part = "";

    private Check() {
    }

    static void part(String name) {
        part = name;
    }

    static void due(String call, long got, long want) {
        if (got != want) {
            wrong(call + " answered " + got + ", due is " + want);
        }
    }

    static void wrong(String what) {
        wrong++;
        System.out.println(part + ": " + what);
    }

    /** A call that is REFUSED by a number: its answer, what status() says, and that count() has one more. */
    static void refused(ShortPrayers x, String call, int before, int got, int by) {
        due(call, got, by);
        due(call + " status()", x.status(), by);
        due(call + " count", x.count(counter(by)), before + 1);
    }

    static void taken(ShortPrayers x, String call, int got, int want) {
        due(call, got, want);
        due(call + " status()", x.status(), 0);
    }

    static int counter(int by) {
        switch (by) {
            case -1:
                return 10;
            case -2:
                return 11;
            case -3:
                return 12;
            case -5:
                return 13;
            default:
                return 14;
        }
    }

    static void feed(ShortPrayers x, String text) {
        int[] bytes = new int[text.length()];
        for (int i = 0; i < bytes.length; i++) {
            bytes[i] = text.charAt(i);
        }
        feed(x, bytes);
    }

    static void feed(ShortPrayers x, int... bytes) {
        int had = x.count(9);
        int[] words = new int[(bytes.length + 19) / 20 * 5];
        for (int i = 0; i < bytes.length; i++) {
            words[i / 4] |= (bytes[i] & 255) << (24 - i % 4 * 8);
        }
        for (int i = 0; i < words.length; i += 5) {
            x.feed(words[i], words[i + 1], words[i + 2], words[i + 3], words[i + 4]);
        }
        x.end(had + bytes.length);
    }

    static int law(ShortPrayers x, String text) {
        feed(x, text);
        return x.law();
    }

    static int orders(ShortPrayers x, String text) {
        feed(x, text);
        return x.orders();
    }

    static void close() {
        System.out.println(wrong == 0 ? "all answers are as due" : wrong + " answers are not as due");
        if (wrong != 0) {
            System.exit(1);
        }
    }
}
