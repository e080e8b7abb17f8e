/** As EdgeTest, for promises 28 to 42. */
public final class LaterEdgeTest {
    private static final Edge.Scene NEW = Scenes.NEW;
    private static final Edge.Scene RICH = Scenes.RICH;
    private static final Edge.Scene FULL = Scenes.FULL;
    private static final Edge.Scene LATE = Scenes.LATE;
    // one DAWN is left
    private static final Edge.Scene LAST_DAWN = Scenes.behind(LATE, x -> x.terms(0, 998));

    private LaterEdgeTest() {
    }

    public static void main(String[] args) {
        code();
        codeOfFewAndMany();
        bundles();
        covers();
        when();
        longest();
        keep();
        keepMany();
        answers();
        hidden();
        hiddenBySeveral();
        season();
        drawn();
        image();
        back();
        count();
        status();
        Check.close();
    }

    private static void due(String call, long got, long want) {
        Check.due(call, got, want);
    }

    private static void code() {
        Check.part("promise 28");
        int[] noSuchWords = {0, 1, 2, 4, 8, 9, 10, 12, 15, 1 << 9 | 1, 1 << 10 | 3, 1 << 16 | 3, 1 << 30 | 3, -1, -3,
            Integer.MIN_VALUE | 3};
        for (int letters : Edge.farAnd(noSuchWords)) {
            for (int what = 0; what <= 2; what++) {
                int asked = what;
                Edge.asked(RICH, "code(" + letters + ", " + what + ")", -1, x -> x.code(letters, asked));
            }
        }
        for (int what : Edge.farAnd(-1, 9)) {
            Edge.asked(RICH, "code(3, " + what + ")", -1, x -> x.code(3, what));
        }
        for (int thing = 3; thing < 8; thing++) {
            int what = 1 + thing;
            Edge.asked(RICH, "not asked", -1, x -> x.code(3, what));
        }
        Edge.asked(RICH, "two WORDS", 18, x -> x.code(3, 0));
        Edge.asked(RICH, "three WORDS", 14, x -> x.code(7, 0));
        Edge.asked(FULL, "four WORDS", -1, x -> x.code(15, 0));
        Edge.asked(FULL, "all WORDS", -1, x -> x.code(1023, 0));
        Edge.asked(FULL, "an eleventh WORD", -1, x -> x.code(1 << 10 | 1, 0));
        Edge.asked(FULL, "the tenth WORD", 51, x -> x.code(1 << 9 | 1, 0));
        Edge.asked(FULL, "THING 7 is not asked", -1, x -> x.code(3, 8));
        Edge.Scene seven = Scenes.behind(FULL, x -> x.often(7, 99));
        for (int what = 0; what <= 8; what++) {
            int asked = what;
            Edge.asked(seven, "above 6 THINGS", -1, x -> x.code(3, asked));
        }
        Edge.Scene six = Scenes.behind(seven, x -> x.often(0, 0));
        Edge.asked(six, "6 THINGS again", -1, x -> x.code(3, 1));
        Edge.asked(six, "THING 7 by the shortest", 1, x -> x.code(3, 8));
    }

    private static ShortPrayers asking(int[] lengths, int... often) {
        ShortPrayers x = new ShortPrayers();
        for (int length : lengths) {
            x.word(length);
        }
        for (int thing = 0; thing < often.length; thing++) {
            x.often(thing, often[thing]);
        }
        return x;
    }

    private static void codeIs(ShortPrayers x, int letters, int... want) {
        for (int what = 0; what < want.length; what++) {
            due("code(" + letters + ", " + what + ")", x.code(letters, what), want[what]);
        }
    }

    private static void codeOfFewAndMany() {
        Check.part("promise 28, few THINGS and many");
        int[][] lengths = {{9, 1}, {1, 9}, {9, 1, 5}, {5, 9, 1}, {1, 5, 9}};
        for (int[] each : lengths) {
            int letters = (1 << each.length) - 1;
            codeIs(asking(each), letters, 0, -1, -1, -1, -1, -1, -1, -1, -1);
            // a row has 1 letter at least
            codeIs(asking(each, 0, 0, 99), letters, 99, -1, -1, 1, -1);
            codeIs(asking(each, 0, 0, 0, 0, 0, 0, 0, 1), letters, 1, -1, -1, -1, -1, -1, -1, -1, 1);
        }
        codeIs(asking(new int[] {9, 9}, 99, 99, 99, 99, 99, 99), 3, 14256, 18, 18, 27, 27, 27, 27, -1, -1);
        codeIs(asking(new int[] {9, 9, 9}, 99, 99, 99, 99, 99, 99), 7, 9801, 9, 18, 18, 18, 18, 18, -1, -1);
        codeIs(asking(new int[] {1, 1}, 1, 1), 3, 2, 1, 1);
        codeIs(asking(new int[] {1, 2, 2}, 1, 1, 1), 7, 5, 1, 2, 2);
        // of alike ones the first row: the lower LENGTH for the lower THING
        codeIs(asking(new int[] {3, 2}, 7, 7), 3, 35, 2, 3);
        codeIs(asking(new int[] {1, 2}, 1, 1, 1), 3, 7, 2, 2, 3);
        codeIs(asking(new int[] {2, 1}, 1, 1, 1), 3, 7, 2, 2, 3);
        codeIs(asking(new int[] {4, 3}, 1, 1, 1, 1, 1), 3, 41, 7, 7, 8, 9, 10);
        codeIs(asking(new int[] {2, 1}, 2, 1, 3, 1, 1), 3, 25, 3, 4, 2, 4, 5);
        codeIs(asking(new int[] {3, 3, 1}, 1, 1, 1, 1, 1, 1), 7, 22, 3, 3, 3, 4, 4, 5);
        codeIs(asking(new int[] {1, 1}, 1, 1, 2), 3, 6, 2, 2, 1);
        codeIs(asking(new int[] {1, 1}, 1, 1, 2, 2), 3, 12, 2, 2, 2, 2);
    }

    private static void bundles() {
        Check.part("promise 29");
        for (int things : Edge.farAnd(-1, 0, 256)) {
            Edge.refused(RICH, "bundle(" + things + ", 1)", -1, x -> x.bundle(things, 1));
        }
        for (int length : Edge.farAnd(-1, 0, 100)) {
            Edge.refused(RICH, "bundle(1, " + length + ")", -1, x -> x.bundle(1, length));
        }
        Edge.taken(RICH, "THING 0 alone, LENGTH 1", 3, x -> x.bundle(1, 1), "count(5)=4", "cover(1)=8");
        Edge.taken(RICH, "THING 7 alone, LENGTH 99", 3, x -> x.bundle(128, 99), "count(5)=4");
        Edge.taken(RICH, "all THINGS, LENGTH 1", 3, x -> x.bundle(255, 1), "count(5)=4", "cover(255)=1,8", "cover(1)=8",
            "cover(2)=8", "cover(4)=8", "cover(8)=8", "cover(16)=8", "cover(32)=8", "cover(64)=8", "cover(128)=8");
        Edge.Scene nine = x -> {
            for (int i = 0; i < 9; i++) {
                x.bundle(1, 9 - i);
            }
            x.bundle(0, 0);
        };
        Edge.taken(nine, "the tenth", 9, x -> x.bundle(3, 1), "count(5)=10", "cover(2)=512");
        Edge.refused(FULL, "the eleventh", -5, x -> x.bundle(255, 1));
        Edge.refused(FULL, "a number that can't be, ahead of no room", -1, x -> x.bundle(256, 1));
        Edge.refused(FULL, "a number that can't be, ahead of no room", -1, x -> x.bundle(255, 0));
    }

    private static void covers() {
        Check.part("promise 30");
        for (int what = 0; what < 2; what++) {
            int asked = what;
            for (int things : Edge.farAnd(-1, 0, 256, 257, 511)) {
                Edge.asked(RICH, "cover(" + things + ", " + what + ")", -1, x -> x.cover(things, asked));
            }
            Edge.asked(NEW, "no BUNDLES", -1, x -> x.cover(1, asked));
            Edge.asked(FULL, "THINGS that none has", -1, x -> x.cover(16, asked));
            Edge.asked(FULL, "THINGS that none has, and others", -1, x -> x.cover(255, asked));
        }
        for (int what : Edge.farAnd(-1, 2)) {
            Edge.asked(RICH, "cover(1, " + what + ")", -1, x -> x.cover(1, what));
        }
        // 1 .. 10 as bits, of LENGTHS 10 .. 1
        Edge.asked(FULL, "all that they have", 5, x -> x.cover(15, 0));
        Edge.asked(FULL, "all that they have", 1 << 9 | 1 << 6, x -> x.cover(15, 1));
        ShortPrayers x = new ShortPrayers();
        x.bundle(3, 4);
        x.bundle(1, 2);
        x.bundle(2, 2);
        due("alike LENGTHS, the fewest", x.cover(3, 1), 1);
        x.bundle(2, 1);
        due("less is ahead of fewer", x.cover(3, 0), 3);
        due("less is ahead of fewer", x.cover(3, 1), 10);
        x.bundle(3, 3);
        due("the fewest", x.cover(3, 1), 16);
        x.bundle(1, 2);
        x.bundle(131, 3);
        due("the lowest as bits", x.cover(3, 1), 16);
        due("more than is told is no harm", x.cover(128, 1), 64);
        due("the lowest as bits", x.cover(1, 1), 2);
        due("count(5)", x.count(5), 7);
    }

    private static void when() {
        Check.part("promise 31");
        for (int what = 0; what < 2; what++) {
            int asked = what;
            for (int prayer : Edge.farAnd(-1, 5, 16)) {
                Edge.asked(RICH, "no such PRAYER", -1, x -> x.when(prayer, 50, asked));
            }
            Edge.asked(RICH, "one that is GRANTED", -1, x -> x.when(1, 50, asked));
            Edge.asked(RICH, "one that is DENIED", -1, x -> x.when(2, 50, asked));
            for (int n : Edge.farAnd(-1, 0, 51)) {
                Edge.asked(RICH, "when(0, " + n + ")", -1, x -> x.when(0, n, asked));
            }
            Edge.asked(RICH, "not within 2", -1, x -> x.when(4, 2, asked));
            Edge.asked(LATE, "no DAWN is left", -1, x -> x.when(0, 50, asked));
            Edge.asked(LAST_DAWN, "one DAWN is left", -1, x -> x.when(3, 50, asked));
            Edge.asked(FULL, "not within 15", -1, x -> x.when(15, 15, asked));
        }
        for (int what : Edge.farAnd(-1, 2)) {
            Edge.asked(RICH, "when(0, 1, " + what + ")", -1, x -> x.when(0, 1, what));
        }
        Edge.asked(RICH, "within 1", 3, x -> x.when(0, 1, 0));
        Edge.asked(RICH, "within 1", 1, x -> x.when(0, 1, 1));
        Edge.asked(RICH, "within 3", 5, x -> x.when(4, 3, 0));
        Edge.asked(RICH, "within 50", 5, x -> x.when(4, 50, 0));
        Edge.asked(LAST_DAWN, "within the last one", 999, x -> x.when(0, 50, 0));
        Edge.asked(LAST_DAWN, "within the last one", 1, x -> x.when(0, 50, 1));
        Edge.asked(FULL, "within 16", 16, x -> x.when(15, 16, 0));
        Edge.asked(FULL, "THING 0 was GRANTED 8 DAYS ago", 1, x -> x.when(8, 9, 1));
        Edge.Scene held = Scenes.behind(FULL, x -> x.terms(2, 9));
        Edge.asked(held, "8 is less than 9", 0, x -> x.when(8, 9, 1));
        Edge.asked(held, "heard, though DENIED", 9, x -> x.when(8, 9, 0));
        Edge.asked(Scenes.behind(held, x -> x.terms(2, 8)), "8 is not less than 8", 1, x -> x.when(8, 9, 1));
        ShortPrayers x = new ShortPrayers();
        x.person(1);
        x.pray(0, 0, 1, 1);
        x.force(Check.law(x, "bars if day < 50"));
        due("the 50th", x.when(0, 50, 0), 50);
        due("the 50th", x.when(0, 49, 0), -1);
        x.force(Check.law(x, "bars if day < 51"));
        due("the 51st", x.when(0, 50, 0), -1);
    }

    private static void longest() {
        Check.part("promise 32");
        for (int asker : Edge.farAnd(-1, 2, 6)) {
            Edge.asked(RICH, "asker " + asker, -1, x -> x.longest(asker, 3, 1));
        }
        for (int thing : Edge.farAnd(-1, 8)) {
            Edge.asked(RICH, "thing " + thing, -1, x -> x.longest(0, thing, 1));
        }
        for (int voices : Edge.farAnd(-1, 0, 7)) {
            Edge.asked(RICH, "voices " + voices, -1, x -> x.longest(0, 3, voices));
        }
        Edge.asked(LATE, "DAY 999", -1, x -> x.longest(0, 3, 1));
        Edge.asked(LAST_DAWN, "DAY 998", 99, x -> x.longest(0, 3, 1));
        // RANKS: 23 of the first that WAITS, LENGTH and 1 of the new one
        Edge.asked(RICH, "ahead of the first", 21, x -> x.longest(0, 3, 1));
        Edge.asked(RICH, "VOICES 6", 21, x -> x.longest(0, 3, 6));
        Edge.asked(RICH, "its THING was GRANTED 2 DAYS ago", -1, x -> x.longest(0, 0, 1));
        Edge.asked(RICH, "one that CLASHES was", -1, x -> x.longest(0, 1, 1));
        Edge.Scene holds = Scenes.behind(RICH, x -> x.terms(2, 2));
        Edge.asked(holds, "HOLDS 2", 21, x -> x.longest(0, 0, 1));
        Edge.asked(holds, "HOLDS 2", 21, x -> x.longest(0, 1, 1));
        Edge.Scene ears = Scenes.behind(RICH, x -> x.terms(1, 4));
        Edge.asked(ears, "EARS enough", 99, x -> x.longest(0, 3, 1));
        Edge.asked(ears, "as long as the BREATH", 60, x -> x.longest(1, 3, 1));
        Edge.asked(ears, "ahead of its THING alone", 21, x -> x.longest(0, 5, 1));
        Edge.asked(FULL, "none is short enough", -1, x -> x.longest(0, 7, 1));
        Edge.Scene room = Scenes.behind(FULL, x -> x.terms(1, 2));
        Edge.asked(room, "room aside", 1, x -> x.longest(0, 7, 1));
        ShortPrayers x = new ShortPrayers();
        x.person(0);
        x.person(1);
        x.force(Check.law(x, "breath age"));
        due("BREATH 0", x.longest(0, 0, 1), -1);
        due("BREATH 1", x.longest(1, 0, 1), 1);
    }

    private static void keep() {
        Check.part("promise 33");
        for (int prayer : Edge.farAnd(-1, 1, 2, 5, 16)) {
            Edge.asked(RICH, "none that WAITS", -1, x -> x.keep(prayer, 1, 0, 3, 1));
        }
        for (int n : Edge.farAnd(-1, 0, 21)) {
            Edge.asked(RICH, "n " + n, -1, x -> x.keep(0, n, 0, 3, 1));
            // not even if none more is needed
            Edge.asked(LATE, "n " + n, -1, x -> x.keep(0, n, 0, 3, 1));
        }
        for (int asker : Edge.farAnd(-1, 2, 6)) {
            Edge.asked(RICH, "asker " + asker, -1, x -> x.keep(0, 1, asker, 3, 1));
        }
        for (int thing : Edge.farAnd(-1, 8)) {
            Edge.asked(RICH, "thing " + thing, -1, x -> x.keep(0, 1, 0, thing, 1));
        }
        for (int length : Edge.farAnd(-1, 0, 100)) {
            Edge.asked(RICH, "length " + length, -1, x -> x.keep(0, 1, 0, 3, length));
        }
        Edge.asked(RICH, "as long as the BREATH", 0, x -> x.keep(4, 2, 1, 3, 60));
        Edge.asked(RICH, "beyond the BREATH", -1, x -> x.keep(4, 2, 1, 3, 61));
        Edge.asked(RICH, "LENGTH 99", 0, x -> x.keep(4, 2, 0, 3, 99));
        Edge.asked(RICH, "ahead of it", 1, x -> x.keep(0, 1, 0, 3, 21));
        Edge.asked(RICH, "alike, so behind it", -1, x -> x.keep(0, 1, 0, 3, 22));
        Edge.asked(RICH, "it is not heard so soon", 0, x -> x.keep(4, 2, 0, 3, 1));
        Edge.asked(LATE, "no DAWN is left", 0, x -> x.keep(0, 20, 0, 3, 1));
        Edge.asked(LAST_DAWN, "one DAWN is left", 1, x -> x.keep(0, 20, 0, 3, 1));
        Edge.asked(LAST_DAWN, "one DAWN is left", 0, x -> x.keep(3, 20, 0, 3, 1));
        Edge.asked(RICH, "one for its THING", 1, x -> x.keep(0, 20, 0, 5, 1));
    }

    private static void keepMany() {
        Check.part("promise 33, up to 8");
        for (int n = 1; n <= 20; n++) {
            int dawns = n;
            Edge.asked(RICH, "one each DAWN, " + n, n <= 8 ? n : -1, x -> x.keep(0, dawns, 0, 3, 1));
            // heard behind the first one
            Edge.asked(FULL, "room aside, " + n, n <= 9 ? n - 1 : -1, x -> x.keep(1, dawns, 0, 7, 1));
        }
        // said now, by VOICES 1: its RANK is 4 by those, 2 by VOICES 2, 6 by 0
        ShortPrayers x = new ShortPrayers();
        x.person(0);
        x.pray(0, 0, 5, 2);
        x.terms(0, 3);
        x.force(Check.law(x, "rank length; rank 6 - voices * 2 if length = 1 and waits = 1; rank 4 + voices if length = 2"));
        due("ahead of 5", x.keep(0, 1, 0, 1, 1), 1);
        due("alike as 5", x.keep(0, 1, 0, 1, 2), -1);
        x.force(Check.law(x, "rank length; rank 4 + voices * 2 if thing = 1; rank 5 - voices if thing = 2"));
        due("behind 5, by VOICES 0 it was ahead", x.keep(0, 1, 0, 1, 9), -1);
        due("ahead of 5, by VOICES 0 it was alike", x.keep(0, 1, 0, 2, 9), 1);
        // BARRED ones keep none; those that are heard at DAWNS to come by the LAW as it is then
        x.force(Check.law(x, "bars if thing = 1; rank length; rank 9 if thing = 2 and day > 5"));
        due("BARRED", x.keep(0, 1, 0, 1, 1), -1);
        due("ahead on DAY 4", x.keep(0, 1, 0, 2, 1), 1);
        due("ahead on DAYS 4, 5", x.keep(0, 2, 0, 2, 1), 2);
        due("not on DAY 6", x.keep(0, 3, 0, 2, 1), -1);
    }

    private static void answers() {
        Check.part("promises 34, 35");
        for (int k : Edge.farAnd(-1, 0, 10)) {
            Edge.refused(RICH, "answer(" + k + ", 0, 0)", -1, x -> x.answer(k, 0, 0));
        }
        for (int thing : Edge.farAnd(-1, 8)) {
            Edge.refused(RICH, "answer(1, " + thing + ", 0)", -1, x -> x.answer(1, thing, 0));
        }
        for (int is : Edge.farAnd(-1, 2)) {
            Edge.refused(RICH, "answer(1, 0, " + is + ")", -1, x -> x.answer(1, 0, is));
        }
        // it can't be GRANTED and not
        Edge.taken(RICH, "the first DAWN", 2, x -> x.answer(1, 4, 1), "count(6)=2", "hidden=0,-1");
        Edge.taken(RICH, "the first DAWN, as it is", 2, x -> x.answer(1, 4, 0), "count(6)=2");
        // by then all were heard
        Edge.taken(RICH, "the ninth DAWN", 2, x -> x.answer(9, 7, 0), "count(6)=2");
        Edge.taken(RICH, "the ninth DAWN", 2, x -> x.answer(9, 7, 1), "count(6)=2", "hidden=0,-1");
        Edge.Scene five = x -> {
            x.person(0);
            for (int i = 0; i < 5; i++) {
                x.answer(1, 0, 0);
            }
            x.answer(0, 0, 0);
        };
        Edge.taken(five, "the sixth", 6, x -> x.answer(1, 7, 0), "count(6)=6", "hidden=180,30");
        Edge.refused(FULL, "the seventh", -5, x -> x.answer(1, 7, 0));
        Edge.refused(FULL, "a number that can't be, ahead of no room", -1, x -> x.answer(0, 7, 0));
        Edge.refused(FULL, "a number that can't be, ahead of no room", -1, x -> x.answer(1, 7, 2));
        Edge.asked(NEW, "forget none", 0, x -> x.forget());
        Edge.asked(RICH, "forget one", 1, x -> x.forget(), "count(6)=0", "hidden=480,0");
        Edge.asked(FULL, "forget six", 6, x -> x.forget(), "count(6)=0", "hidden=1440,0");
        Edge.asked(Scenes.behind(FULL, x -> x.forget()), "forget again", 0, x -> x.forget());
        // THING 0 waits for the ninth DAWN, but if one of LENGTHS 1 .. 7, or of 8 for another THING, is heard ahead
        Edge.taken(Scenes.behind(FULL, x -> x.forget()), "the first again", 1, x -> x.answer(9, 0, 0), "count(6)=1",
            "hidden=378,0");
    }

    private static void hidden() {
        Check.part("promise 36");
        for (int i : Edge.farAnd(-2, 438, 479, 480)) {
            Edge.asked(RICH, "hidden(" + i + ")", -1, x -> x.hidden(i));
        }
        Edge.asked(RICH, "the last", 479, x -> x.hidden(437));
        // LENGTHS 22 .. 30 of THING 4 are behind LENGTHS 1 .. 30 of THINGS 0 .. 3
        Edge.asked(RICH, "the first of THING 4", 4 * 30 + 21, x -> x.hidden(120));
        Edge.asked(RICH, "the last of THING 3", 119, x -> x.hidden(119));
        Edge.asked(NEW, "no PEOPLE", 0, x -> x.hidden(-1));
        Edge.asked(NEW, "no PEOPLE", -1, x -> x.hidden(0));
        Edge.asked(FULL, "none", 0, x -> x.hidden(-1));
        Edge.asked(FULL, "none", -1, x -> x.hidden(0));
        Edge.asked(LATE, "no DAWN is left: none is GRANTED", 480, x -> x.hidden(-1));
        for (int thing = 0; thing < 8; thing++) {
            int of = thing;
            Edge.Scene granted = Scenes.behind(LATE, x -> x.answer(1, of, 1));
            Edge.asked(granted, "no DAWN is left: none is GRANTED", 0, x -> x.hidden(-1));
            Edge.Scene second = Scenes.behind(LAST_DAWN, x -> x.answer(2, of, 1));
            Edge.asked(second, "one DAWN is left", 0, x -> x.hidden(-1));
            Edge.Scene not = Scenes.behind(LAST_DAWN, x -> x.answer(2, of, 0));
            Edge.asked(not, "one DAWN is left: no 4 at that", 420, x -> x.hidden(-1));
        }
        Edge.Scene breathless = Scenes.fed(NEW, "breath 0");
        ShortPrayers x = new ShortPrayers();
        breathless.set(x);
        x.person(3);
        x.force(x.law());
        due("BREATH aside", x.hidden(-1), 240);
        due("pray", x.pray(0, 0, 1, 1), -3);
    }

    private static void hiddenBySeveral() {
        Check.part("promise 36, by any PRAYER for that THING");
        ShortPrayers x = new ShortPrayers();
        x.person(0);
        x.pray(0, 3, 40, 1);
        x.pray(0, 5, 41, 1);
        x.terms(1, 2);
        x.answer(1, 3, 1);
        due("3 is GRANTED, by the one or by the other", x.hidden(-1), 240);
        x.answer(1, 5, 1);
        due("5 as well, by the hidden one", x.hidden(-1), 30);
        due("the first", x.hidden(0), 150);
        x.terms(1, 3);
        due("all three are heard", x.hidden(-1), 240);
        x.answer(1, 0, 0);
        due("but for 0", x.hidden(-1), 210);
        due("but for 0", x.hidden(0), 30);
        x.answer(2, 0, 0);
        due("none at the second", x.hidden(-1), 210);
        x.answer(3, 0, 1);
        due("none at the third", x.hidden(-1), 0);
    }

    private static void season() {
        Check.part("promise 37");
        for (int seed : Edge.farAnd(-1)) {
            Edge.refused(RICH, "season(" + seed + ", 1)", -1, x -> x.season(seed, 1));
        }
        for (int n : Edge.farAnd(-1, 0, 61)) {
            Edge.refused(RICH, "season(7, " + n + ")", -1, x -> x.season(7, n));
            Edge.refused(NEW, "a number that can't be, ahead of no PEOPLE", -1, x -> x.season(7, n));
        }
        Edge.refused(NEW, "a number that can't be, ahead of no PEOPLE", -1, x -> x.season(-1, 1));
        Edge.refused(NEW, "no PEOPLE", -3, x -> x.season(0, 1));
        Edge.refused(NEW, "no PEOPLE", -3, x -> x.season(1000000, 60));
        // s: 12345, PERSON 1; 628841, THING 1; 621889, LENGTH 10. It is heard, and DENIED: 0 was GRANTED on DAY 1
        Edge.taken(RICH, "SEED 0", 0, x -> x.season(0, 1), "drawn(0)=0,0,1,1", "drawn(1)=1,1,1,2");
        // s: 9036, PERSON 0; 979026, THING 2; 874786, LENGTH 27: one of 20 is heard ahead of it
        Edge.taken(RICH, "SEED 1000000", 1, x -> x.season(1000000, 1), "drawn(0)=1,1,1,1", "drawn(1)=0,1,0,2");
        Edge.taken(LATE, "DAY 999: it is said, no DAWN comes", 0, x -> x.season(0, 60), "drawn(0)=0,0,1,1",
            "drawn(1)=1,1,0,3");
        Edge.taken(LAST_DAWN, "DAY 998: one DAWN comes", 1, x -> x.season(0, 1), "drawn(0)=0,0,1,1", "drawn(1)=1,2,0,2");
        Edge.taken(FULL, "no room: none is said", 1, x -> x.season(0, 1), "drawn(0)=0,1,0,2", "drawn(1)=0,0,0,3",
            "drawn(2)=0,0,0,3", "drawn(3)=0,0,0,3", "drawn(4)=0,0,0,2", "drawn(5)=0,0,0,2");
        // by RANKS of each DAY: all but the last DAWNS are BARRED
        ShortPrayers x = new ShortPrayers();
        x.person(50);
        x.terms(1, 4);
        x.terms(2, 0);
        x.force(Check.law(x, "bars if day < 5"));
        due("4 DAYS", x.season(0, 4), 0);
        due("4 WAIT", x.drawn(0, 3), 4);
        due("5 DAYS", x.season(0, 5), 4);
        due("the fifth", x.drawn(0, 3), 1);
        due("6 DAYS", x.season(0, 6), 6);
        x.force(Check.law(x, "bars if day < 60"));
        due("59 DAYS", x.season(0, 59), 0);
        due("60 DAYS", x.season(0, 60), 4);
        x.force(Check.law(x, "breath 99; breath 0 if day > 2"));
        due("the BREATH of each DAY", x.season(0, 60), 3);
        due("the BREATH of each DAY", x.drawn(0, 0), 3);
        x.force(Check.law(x, "rank 0 - length"));
        x.pray(0, 7, 41, 1);
        x.terms(1, 1);
        due("the lowest RANK is heard", x.season(0, 1), 1);
        due("WAITS", x.drawn(0, 3), 1);
        x.terms(2, 30);
        x.pray(0, 7, 42, 1);
        due("1 is DENIED behind it", x.season(0, 2), 1);
        due("DENIED", x.drawn(0, 2), 1);
    }

    private static void drawn() {
        Check.part("promise 38");
        for (int what = 0; what <= 3; what++) {
            int asked = what;
            for (int person : Edge.farAnd(-1, 2, 6)) {
                Edge.asked(RICH, "no such PERSON in it", -1, x -> x.drawn(person, asked));
            }
            Edge.asked(NEW, "ahead of any", -1, x -> x.drawn(0, asked));
            Edge.asked(FULL, "ahead of any", -1, x -> x.drawn(0, asked));
            Edge.asked(Scenes.behind(FULL, x -> x.season(0, 61)), "ahead of any that was not REFUSED", -1,
                x -> x.drawn(0, asked));
            Edge.asked(Scenes.behind(RICH, x -> x.person(1)), "who came later", -1, x -> x.drawn(2, asked));
        }
        for (int what : Edge.farAnd(-1, 4)) {
            Edge.asked(RICH, "drawn(0, " + what + ")", -1, x -> x.drawn(0, what));
        }
        Edge.asked(Scenes.behind(RICH, x -> x.season(7, 0)), "the latest that was not REFUSED", 2, x -> x.drawn(0, 0));
        // all there are: with the 14 that WAIT there is room for two, 16 in all
        ShortPrayers x = new ShortPrayers();
        x.person(0);
        Check.orders(x, "pray 0 for 0 of 99 times 14");
        x.force(Check.law(x, "bars"));
        due("season", x.season(3, 60), 0);
        due("said in it", x.drawn(0, 0), 2);
        due("WAIT, all there are", x.drawn(0, 3), 16);
        x.force(-1);
        due("season", x.season(3, 60) > 0 ? 1 : 0, 1);
        due("GRANTED, DENIED", x.drawn(0, 1) + x.drawn(0, 2), 16);
        due("none WAITS", x.drawn(0, 3), 0);
    }

    private static void image() {
        Check.part("promise 39");
        for (int k : Edge.farAnd(-1, 2)) {
            Edge.refused(RICH, "image(" + k + ")", -1, x -> x.image(k));
        }
        Edge.taken(RICH, "image(1)", 0, x -> x.image(1), "back(1)=3,3,2,5,3,3,1,2,0,2");
        Edge.taken(RICH, "image(0) anew", 0, x -> x.image(0), "back(0)=3,3,2,5,3,3,1,2,0,2");
        Edge.taken(LATE, "image(1)", 0, x -> x.image(1), "back(1)=3,3,2,5,3,3,1,2,0,999");
        Edge.taken(FULL, "all that there is room for", 0, x -> x.image(1), "back(1)=10,16,6,16,16,10,6,6,5,0");
    }

    private static void back() {
        Check.part("promise 40");
        for (int k : Edge.farAnd(-1, 2)) {
            Edge.refused(RICH, "back(" + k + ")", -1, x -> x.back(k));
            Edge.refused(NEW, "a number that can't be, ahead of none that was kept", -1, x -> x.back(k));
        }
        Edge.refused(NEW, "back(0), not kept", -2, x -> x.back(0));
        Edge.refused(RICH, "back(1), not kept", -2, x -> x.back(1));
        Edge.Scene other = Scenes.behind(NEW, x -> x.image(1));
        Edge.refused(other, "back(0), the other was kept", -2, x -> x.back(0));
        Edge.taken(RICH, "back(0)", 0, x -> x.back(0), "count(3)=4", "count(4)=2", "count(8)=0", "undo=",
            "at(4)=-1,-1,-1,-1,-1,-1,-1", "rank(4)=-1000000", "order=2,0,3,-1");
        Edge.taken(LATE, "back(0)", 0, x -> x.back(0), "count(3)=4", "count(4)=2", "count(16)=2",
            "at(4)=-1,-1,-1,-1,-1,-1,-1", "rank(0)=23", "rank(3)=33", "rank(4)=-1000000", "order=2,0,3,-1", "hidden=438,0");
        // what is kept of FULL was kept ahead of all PRAYERS, of the LAW in FORCE and of a CLASH
        ShortPrayers x = new ShortPrayers();
        FULL.set(x);
        x.season(1, 1);
        int said = x.drawn(1, 3);
        Check.taken(x, "back(0)", x.back(0), 0);
        int[] want = {10, 16, 6, 0, 0, 10, 6, 6, 0, 400};
        for (int what = 0; what < want.length; what++) {
            due("count(" + what + ")", x.count(what), want[what]);
        }
        due("what was REFUSED is not kept", x.count(11), 1);
        due("the LAW in FORCE", x.count(15), -1);
        due("the CLASH", x.clash(6, 7, 0), 0);
        due("the latest SEASON is not kept", x.drawn(1, 3), said);
        // IMAGES stay as they were, whatever is done behind back()
        x.clash(6, 7, 1);
        x.often(0, 77);
        x.terms(3, 9);
        x.pray(0, 0, 1, 1);
        x.forget();
        x.back(0);
        due("the CLASH", x.clash(6, 7, 0), 0);
        due("OFTEN", x.often(0, 0), 1);
        due("MOOD", x.count(19), 0);
        due("PRAYERS", x.count(3), 0);
        due("ANSWERS", x.count(6), 6);
        x.back(1);
        due("the other one, too", x.often(0, 0), 1);
        due("an IMAGE of it", x.image(0), 0);
        due("back to that", x.back(0), 0);
        due("OFTEN", x.often(0, 5), 0);
    }

    private static void count() {
        Check.part("promise 41");
        for (int what : Edge.farAnd(-1, 20, 21)) {
            Edge.asked(RICH, "count(" + what + ")", -1, x -> x.count(what));
            Edge.asked(FULL, "count(" + what + ")", -1, x -> x.count(what));
        }
        int[] full = {10, 16, 6, 16, 16, 10, 6, 6, 16, 400, 0, 1, 0, 0, 0, 5, 0, 1, 3, 0};
        int[] rich = {3, 3, 2, 5, 3, 3, 1, 2, 6, 7, 0, 0, 1, 0, 1, 0, 2, 1, 3, 0};
        for (int what = 0; what < 20; what++) {
            int asked = what;
            Edge.asked(FULL, "count(" + what + ")", full[what], x -> x.count(asked));
            Edge.asked(RICH, "count(" + what + ")", rich[what], x -> x.count(asked));
        }
        // many that are REFUSED, and IMAGES don't keep how many
        ShortPrayers x = new ShortPrayers();
        x.image(0);
        for (int i = 0; i < 60; i++) {
            x.word(0);
            x.force(0);
            x.undo();
            x.row();
        }
        for (int i = 0; i < 66; i++) {
            x.word(1);
        }
        x.back(0);
        due("-1", x.count(10), 60);
        due("-2", x.count(11), 60);
        due("-3", x.count(12), 60);
        due("-5", x.count(13), 56);
        due("-6", x.count(14), 60);
    }

    private static void status() {
        Check.part("promise 42");
        Edge.Call[] told = {x -> x.word(1), x -> x.rule(0, 0, -1, -1), x -> x.clash(0, 1, 1), x -> x.often(0, 1),
            x -> x.person(1), x -> x.terms(1, 1), x -> x.force(0), x -> x.pray(0, 0, 1, 1), x -> x.dawn(), x -> x.undo(),
            x -> x.bundle(1, 1), x -> x.answer(1, 1, 1), x -> x.season(1, 1), x -> x.image(0), x -> x.back(0)};
        Edge.Call[] bad = {x -> x.word(0), x -> x.force(9), x -> x.pray(1, 0, 61, 1), x -> x.row(),
            x -> x.terms(0, 1000), x -> x.back(1), x -> x.season(1, 61)};
        int[] by = {-1, -2, -3, -6, -1, -2, -1};
        ShortPrayers x = new ShortPrayers();
        RICH.set(x);
        x.end(0);
        for (int i = 0; i < told.length; i++) {
            int b = i % bad.length;
            bad[b].on(x);
            due("REFUSED", x.status(), by[b]);
            due("asked again", x.status(), by[b]);
            if (told[i].on(x) < 0) {
                Check.wrong("call " + i + " was REFUSED");
            }
            due("not REFUSED, call " + i, x.status(), 0);
        }
        String[] texts = {"rank 1", "dawn", "dawn if 1 = 2"};
        for (int i = 0; i < 4; i++) {
            x.word(0);
            Check.feed(x, i < 3 ? texts[i] : "abc");
            due("feed, end don't tell", x.status(), -1);
            int got = i == 0 ? x.law() : i < 3 ? x.orders() : x.row();
            due("text " + i, got < 0 ? 1 : 0, 0);
            due("not REFUSED, text " + i, x.status(), 0);
        }
        due("ahead of any", new ShortPrayers().status(), 0);
        // an object is used for 512 calls
        ShortPrayers old = new ShortPrayers();
        for (int i = 0; i < 510; i++) {
            old.word(0);
        }
        due("the 511th call", old.count(10), 510);
        due("the 512th call", old.status(), -1);
    }
}
