/** Villages from which a call is looked at; each took fewer than 110 calls, and REFUSED the latest one (but NEW). */
final class Scenes {
    static final Edge.Scene NEW = x -> { };
    static final Edge.Scene RICH = Scenes::rich;
    static final Edge.Scene FULL = Scenes::full;
    static final Edge.Scene LATE = Scenes::late;
    static final Edge.Scene NO_TAPE = x -> {
        rich(x);
        x.end(0);
    };

    private Scenes() {
    }

    /** The scene with these bytes alone on the TAPE. */
    static Edge.Scene fed(Edge.Scene scene, int... bytes) {
        return x -> {
            scene.set(x);
            x.end(0);
            Check.feed(x, bytes);
        };
    }

    static Edge.Scene fed(Edge.Scene scene, String text) {
        return x -> {
            scene.set(x);
            x.end(0);
            Check.feed(x, text);
        };
    }

    /** The scene, one call more. */
    static Edge.Scene behind(Edge.Scene scene, Edge.Call call) {
        return x -> {
            scene.set(x);
            call.on(x);
        };
    }

    /** Something of everything, and room for more: PRAYERS 1 is GRANTED, 2 is DENIED, the others WAIT; it is DAY 2. */
    private static void rich(ShortPrayers x) {
        x.word(1);
        x.word(2);
        x.word(3);
        x.rule(0, 0, 1, -1);
        x.rule(1, 10, 2, -1);
        x.rule(1, 2, 2, -1);
        x.clash(0, 1, 1);
        x.often(0, 5);
        x.often(1, 3);
        x.often(2, 1);
        x.person(30);
        x.person(70);
        x.bundle(3, 5);
        x.bundle(252, 9);
        x.bundle(255, 20);
        x.answer(1, 4, 0);
        Check.law(x, "rank length + waits; breath 60 if age > 50");
        Check.law(x, "bars if thing = 7");
        x.force(0);
        // the second one is beyond the BREATH, within the third one the TAPE ends
        Check.feed(x, 0, 5, 20, 1, 5, 61, 0);
        x.row();
        x.pray(1, 0, 10, 2);
        x.pray(0, 1, 12, 1);
        x.pray(1, 7, 30, 3);
        x.dawn();
        x.dawn();
        x.season(7, 2);
        x.image(0);
        x.pray(1, 2, 40, 1);
        Check.orders(x, "dawn;pray 0 for 9 of 1");
        Check.law(x, "rank ?");
        Check.feed(x, 1, 2, 3, 4, 5, 6, 7);
    }

    /** No room for anything more: the TAPE has 400 bytes, what can be undone is 16 PRAYERS. */
    private static void full(ShortPrayers x) {
        for (int i = 0; i < 10; i++) {
            x.word(i % 9 + 1);
            x.bundle(i + 1, 10 - i);
        }
        for (int i = 0; i < 16; i++) {
            x.rule(i % 8, 9 - i / 2, -1, -1);
        }
        for (int i = 0; i < 6; i++) {
            x.person(19 * i);
            x.often(i, i + 1);
            x.answer(i + 1, i, 0);
            x.feed(0x62617273, 0x20696620, 0x6d6f6f64, 0x203d2039, 0x20202020);
            x.law();
        }
        x.image(0);
        x.image(1);
        x.clash(6, 7, 1);
        x.force(5);
        Check.orders(x, "pray prayers % 6 for prayers % 8 of prayers + 1 times 16");
        for (int i = 0; i < 20; i++) {
            x.feed(0x00010200, 0x01020001, 0x02000102, 0x00010200, 0x01020001);
        }
        x.force(6);
    }

    /** The village that has something of everything, on its last DAY. */
    private static void late(ShortPrayers x) {
        rich(x);
        x.terms(0, 999);
        x.force(2);
    }
}
