/** For each promise at least one test that fails if it is broken: ordinary inputs, edges, wrong inputs. */
public final class PromiseTest {
    private PromiseTest() {
    }

    public static void main(String[] args) {
        newObject();
        words();
        rules();
        clashes();
        often();
        people();
        terms();
        tape();
        rows();
        laws();
        lawFaults();
        lawLimits();
        lawValues();
        orders();
        orderFaults();
        orderRuns();
        force();
        say();
        pray();
        rank();
        order();
        dawn();
        undo();
        sweep();
        code();
        bundles();
        when();
        longest();
        keep();
        answers();
        hidden();
        seasons();
        standings();
        draws();
        images();
        counts();
        Check.close();
    }

    private static void due(String call, long got, long want) {
        Check.due(call, got, want);
    }

    private static void refused(ShortPrayers x, String call, int got, int by) {
        // that it is counted as well is asked in counts()
        due(call, got, by);
        due(call + " status()", x.status(), by);
    }

    /** A village of two PEOPLE, aged 30 and 70, and three WORDS, of LENGTHS 1 to 3. */
    private static ShortPrayers village() {
        ShortPrayers x = new ShortPrayers();
        x.word(1);
        x.word(2);
        x.word(3);
        x.person(30);
        x.person(70);
        return x;
    }

    private static void newObject() {
        Check.part("promise 1");
        ShortPrayers x = new ShortPrayers();
        for (int what = 0; what <= 14; what++) {
            due("count(" + what + ")", x.count(what), 0);
        }
        due("count(15)", x.count(15), -1);
        due("count(16)", x.count(16), 0);
        due("count(17)", x.count(17), 1);
        due("count(18)", x.count(18), 3);
        due("count(19)", x.count(19), 0);
        due("status()", x.status(), 0);
        due("fault()", x.fault(), -1);
        due("stopped()", x.stopped(), -1);
        due("coughs()", x.coughs(), 0);
        due("NONE", ShortPrayers.NONE, -1);
        due("NOTHING", ShortPrayers.NOTHING, -1000000);
        for (int one = 0; one < 8; one++) {
            due("often", x.often(one, 0), 0);
            for (int other = one + 1; other < 8; other++) {
                due("clash", x.clash(one, other, 0), 0);
            }
        }
    }

    private static void words() {
        Check.part("promises 2, 3");
        ShortPrayers x = new ShortPrayers();
        refused(x, "word(0)", x.word(0), -1);
        refused(x, "word(10)", x.word(10), -1);
        refused(x, "word(min)", x.word(Integer.MIN_VALUE), -1);
        for (int i = 0; i < 10; i++) {
            Check.taken(x, "word", x.word(i % 9 + 1), i);
        }
        refused(x, "word(1), no room", x.word(1), -5);
        refused(x, "word(0), no room", x.word(0), -1);
        due("lengthOf(0)", x.lengthOf(0), 1);
        due("lengthOf(8)", x.lengthOf(8), 9);
        due("lengthOf(9)", x.lengthOf(9), 1);
        due("lengthOf(10)", x.lengthOf(10), -1);
        due("lengthOf(-1)", x.lengthOf(-1), -1);
        due("lengthOf(max)", x.lengthOf(Integer.MAX_VALUE), -1);
        due("count(0)", x.count(0), 10);
        due("count(10)", x.count(10), 4);
        due("count(13)", x.count(13), 1);
    }

    private static void rules() {
        Check.part("promises 4, 5");
        ShortPrayers x = village();
        refused(x, "rule thing 8", x.rule(8, 0, -1, -1), -1);
        refused(x, "rule thing -1", x.rule(-1, 0, -1, -1), -1);
        refused(x, "rule a none", x.rule(0, -1, -1, -1), -1);
        refused(x, "rule a 18", x.rule(0, 18, -1, -1), -1);
        refused(x, "rule b 18", x.rule(0, 0, 18, -1), -1);
        refused(x, "rule b -2", x.rule(0, 0, -2, -1), -1);
        refused(x, "rule c 18", x.rule(0, 0, 0, 18), -1);
        refused(x, "rule c -2", x.rule(0, 0, 0, -2), -1);
        refused(x, "rule c without b", x.rule(0, 0, -1, 0), -1);
        refused(x, "rule a no word", x.rule(0, 3, -1, -1), -2);
        refused(x, "rule b no word", x.rule(0, 0, 9, -1), -2);
        refused(x, "rule c no word", x.rule(0, 0, 0, 3), -2);
        refused(x, "rule no word, bad number", x.rule(8, 3, -1, -1), -1);
        Check.taken(x, "rule", x.rule(7, 17, 2, 10), 0);
        Check.taken(x, "rule", x.rule(0, 0, -1, -1), 1);
        Check.taken(x, "rule", x.rule(0, 0, 1, -1), 2);
        for (int i = 3; i < 16; i++) {
            due("rule", x.rule(1, 1, -1, -1), i);
        }
        refused(x, "rule, no room", x.rule(0, 0, -1, -1), -5);
        refused(x, "rule, no room, no word", x.rule(0, 5, -1, -1), -2);
        refused(x, "rule, no room, bad", x.rule(0, 18, -1, -1), -1);
        due("of(0, 0)", x.of(0, 0), 7);
        due("of(0, 1)", x.of(0, 1), 17);
        due("of(0, 2)", x.of(0, 2), 2);
        due("of(0, 3)", x.of(0, 3), 10);
        due("of(0, 4)", x.of(0, 4), -1);
        due("of(0, -1)", x.of(0, -1), -1);
        due("of(1, 2)", x.of(1, 2), -1);
        due("of(2, 2)", x.of(2, 2), 1);
        due("of(2, 3)", x.of(2, 3), -1);
        due("of(16, 0)", x.of(16, 0), -1);
        due("of(-1, 0)", x.of(-1, 0), -1);
        due("count(1)", x.count(1), 16);
    }

    private static void clashes() {
        Check.part("promise 6");
        ShortPrayers x = new ShortPrayers();
        refused(x, "clash alike", x.clash(3, 3, 1), -1);
        refused(x, "clash 8", x.clash(8, 0, 1), -1);
        refused(x, "clash -1", x.clash(0, -1, 1), -1);
        refused(x, "clash is 2", x.clash(0, 1, 2), -1);
        refused(x, "clash is -1", x.clash(0, 1, -1), -1);
        Check.taken(x, "clash", x.clash(2, 5, 1), 0);
        Check.taken(x, "clash other way", x.clash(5, 2, 1), 1);
        Check.taken(x, "clash", x.clash(5, 2, 0), 1);
        Check.taken(x, "clash", x.clash(2, 5, 0), 0);
        Check.taken(x, "clash", x.clash(0, 7, 1), 0);
        due("clash not told", x.clash(0, 6, 0), 0);
    }

    private static void often() {
        Check.part("promise 7");
        ShortPrayers x = new ShortPrayers();
        refused(x, "often 8", x.often(8, 1), -1);
        refused(x, "often -1", x.often(-1, 1), -1);
        refused(x, "often value 100", x.often(0, 100), -1);
        refused(x, "often value -1", x.often(0, -1), -1);
        Check.taken(x, "often", x.often(7, 99), 0);
        Check.taken(x, "often", x.often(7, 0), 99);
        Check.taken(x, "often", x.often(7, 5), 0);
        due("often of another", x.often(6, 0), 0);
    }

    private static void people() {
        Check.part("promises 8, 9");
        ShortPrayers x = new ShortPrayers();
        refused(x, "person(-1)", x.person(-1), -1);
        refused(x, "person(100)", x.person(100), -1);
        Check.taken(x, "person(0)", x.person(0), 0);
        Check.taken(x, "person(99)", x.person(99), 1);
        for (int i = 2; i < 6; i++) {
            due("person", x.person(50), i);
        }
        refused(x, "person, no room", x.person(5), -5);
        refused(x, "person, no room, bad", x.person(100), -1);
        due("breath(1, 0)", x.breath(1, 0), 99);
        due("breath(1, 1)", x.breath(1, 1), 99);
        due("breath(0, 0)", x.breath(0, 0), 0);
        due("breath(0, 2)", x.breath(0, 2), -1);
        due("breath(0, -1)", x.breath(0, -1), -1);
        due("breath(6, 0)", x.breath(6, 0), -1);
        due("breath(6, 1)", x.breath(6, 1), -1);
        due("breath(-1, 1)", x.breath(-1, 1), -1);

        ShortPrayers y = village();
        y.force(Check.law(y, "breath 1000; breath 0 - 1 if age > 50; breath 10 + mood if day = 3"));
        due("breath above 99", y.breath(0, 1), 99);
        due("breath below 0", y.breath(1, 1), 0);
        y.terms(0, 3);
        y.terms(3, 7);
        due("breath by mood", y.breath(0, 1), 17);
        due("breath by mood", y.breath(1, 1), 17);
        y.force(Check.law(y, "breath 50 + length * 10 + voices * 5 + thing + waits + asker"));
        due("what is not there is -1", y.breath(1, 1), 50 - 10 - 5 - 1 - 1 + 1);
        y.force(Check.law(y, "rank 5; bars"));
        due("breath without", y.breath(1, 1), 99);
        y.force(Check.law(y, "breath 7; breath 5 / 0; breath 3 if 1 / 0 = 0"));
        due("breath that is broken does not hold", y.breath(1, 1), 7);
    }

    private static void terms() {
        Check.part("promise 10");
        ShortPrayers x = new ShortPrayers();
        int[] low = {0, 1, 0, 0};
        int[] high = {999, 4, 30, 9};
        int[] first = {0, 1, 3, 0};
        for (int what = 0; what < 4; what++) {
            refused(x, "terms low", x.terms(what, low[what] - 1), -1);
            refused(x, "terms high", x.terms(what, high[what] + 1), -1);
            Check.taken(x, "terms", x.terms(what, high[what]), first[what]);
            Check.taken(x, "terms", x.terms(what, low[what]), high[what]);
            due("count", x.count(16 + what), low[what]);
        }
        refused(x, "terms(-1)", x.terms(-1, 1), -1);
        refused(x, "terms(4)", x.terms(4, 1), -1);
    }

    private static void tape() {
        Check.part("promises 11, 12");
        ShortPrayers x = new ShortPrayers();
        for (int i = 1; i <= 20; i++) {
            due("feed", x.feed(0, 0, 0, 0, 0), 20 * i);
        }
        due("feed over", x.feed(0, 0, 0, 0, 0), -1);
        due("count(9)", x.count(9), 400);
        due("end(401)", x.end(401), -1);
        due("end(-1)", x.end(-1), -1);
        due("count(9)", x.count(9), 400);
        due("end(381)", x.end(381), 381);
        due("feed over", x.feed(0, 0, 0, 0, 0), -1);
        due("end(380)", x.end(380), 380);
        due("feed", x.feed(0, 0, 0, 0, 0), 400);
        due("end(0)", x.end(0), 0);
        due("end(1)", x.end(1), -1);
        due("end(0)", x.end(0), 0);
        due("status", x.status(), 0);
        // the highest byte first, and negative numbers as well
        x.person(1);
        due("feed", x.feed(0x00010200, 0x01ff0001, 0x80000000, 0, 0), 20);
        x.end(9);
        due("row", x.row(), 1);
        due("coughs", x.coughs(), 2);
        due("at(0, 1)", x.at(0, 1), 1);
        due("at(0, 2)", x.at(0, 2), 2);
    }

    private static void rows() {
        Check.part("promises 13, 14");
        ShortPrayers x = village();
        x.terms(0, 9);
        refused(x, "row()", x.row(), -6);
        Check.feed(x, 0, 7, 99, 1, 0, 1, 2, 0, 5, 0, 8, 5, 0, 0, 0, 0, 0, 100, 255, 255, 255, 0, 0);
        due("row()", x.row(), 2);
        due("status()", x.status(), 0);
        due("coughs()", x.coughs(), 6);
        due("count(9)", x.count(9), 0);
        due("count(3)", x.count(3), 2);
        due("at(0, 2)", x.at(0, 2), 99);
        due("at(1, 0)", x.at(1, 0), 1);
        due("at(1, 3)", x.at(1, 3), 1);
        due("at(1, 4)", x.at(1, 4), 9);
        refused(x, "row()", x.row(), -6);
        due("coughs() behind one that was refused", x.coughs(), 6);
        int[] many = new int[60];
        for (int i = 0; i < 60; i++) {
            many[i] = i % 3 == 2 ? 5 : 0;
        }
        Check.feed(x, many);
        due("row() without room", x.row(), 14);
        due("coughs()", x.coughs(), 6);
        x.sweep();
        Check.feed(x, 0, 0);
        due("row()", x.row(), 0);
        due("coughs()", x.coughs(), 1);
        due("nothing refused", x.count(13), 0);

        ShortPrayers y = village();
        y.force(Check.law(y, "breath 10"));
        y.pray(0, 0, 1, 1);
        due("count(8)", y.count(8), 1);
        refused(y, "row()", y.row(), -6);
        due("one that is refused leaves what can be undone", y.count(8), 1);
        Check.feed(y, 0, 0, 11, 0, 0, 10);
        due("row()", y.row(), 1);
        due("coughs()", y.coughs(), 1);
        due("count(8)", y.count(8), 0);
    }

    private static void laws() {
        Check.part("promises 15, 17");
        ShortPrayers x = village();
        Check.feed(x, "rank 1");
        Check.taken(x, "law()", x.law(), 0);
        due("fault()", x.fault(), -1);
        due("count(9)", x.count(9), 0);
        Check.feed(x, "rank");
        refused(x, "law()", x.law(), -6);
        due("fault()", x.fault(), 4);
        due("count(9)", x.count(9), 0);
        refused(x, "law(), nothing", x.law(), -6);
        due("fault()", x.fault(), 0);
        Check.feed(x, "    ");
        refused(x, "law(), blanks", x.law(), -6);
        due("fault()", x.fault(), 4);
        String[] whole = {"bars", "breath length", " rank1;bars  if not not 1<2or(3=3)and 4>5 ;", "rank[[[1]]]*-1",
            "bars if [1] < 2", "bars if ([1] < 2)", "rank 1000", "rank 000000000000000000001000", "rank a"};
        int[] faults = {-1, -1, 43, 12, -1, -1, -1, -1, 5};
        int number = 1;
        for (int i = 0; i < whole.length; i++) {
            if (x.count(7) == 5) {
                x = village();
                number = 0;
            }
            due(whole[i], Check.law(x, whole[i]), faults[i] == -1 ? number++ : -6);
            due(whole[i] + " fault", x.fault(), faults[i]);
        }
        x = new ShortPrayers();
        for (int i = 0; i < 6; i++) {
            due("law", Check.law(x, "rank 1"), i);
        }
        Check.law(x, "rank 1");
        due("fault stays, nothing was read", x.fault(), -1);
        Check.feed(x, "rank");
        refused(x, "law, no room", x.law(), -5);
        due("fault()", x.fault(), -1);
        due("count(9)", x.count(9), 0);
        due("count(7)", x.count(7), 6);
        due("count(13)", x.count(13), 2);
        Check.orders(x, "dawn ,");
        Check.feed(x, "rank");
        due("law, no room", x.law(), -5);
        due("fault of the orders stays", x.fault(), 5);
    }

    private static void fault(String text, int want) {
        ShortPrayers x = new ShortPrayers();
        due("law " + text, Check.law(x, text), want == -1 ? 0 : -6);
        due("law " + text + " fault()", x.fault(), want);
        due("law " + text + " count(7)", x.count(7), want == -1 ? 1 : 0);
    }

    private static void lawFaults() {
        Check.part("term II, laws");
        fault("rank 1001", 5);
        fault("rank 10000", 5);
        fault("bars if notz", 8);
        fault("bars if nota", 8);
        fault("rank 9a", 6);
        fault("rank 1 if 1 < 2 and", 19);
        fault("rank 1 if 1 < 2 or (1 < 2", 25);
        fault("rank 99999999999999999999", 5);
        fault("rank 4294967297", 5);
        fault("rank 1 2", 7);
        fault("rank (1)", 5);
        fault("rank 1 +", 8);
        fault("rank 1 + ;", 9);
        fault("rank [1", 7);
        fault("rank [1)", 7);
        fault("rank [1]]", 8);
        fault("rank -1", 5);
        fault("rank not 1", 5);
        fault("rank 1 if", 9);
        fault("rank 1 if 1", 11);
        fault("rank 1 if 1 < ", 14);
        fault("rank 1 if 1 < 2 < 3", 16);
        fault("rank 1 if 1 < 2 or", 18);
        fault("rank 1 if 1 < 2 and and", 20);
        fault("rank 1 if 1 < 2 not 1 < 2", 16);
        fault("rank 1 if (1 < 2", 16);
        fault("rank 1 if (1 < 2]", 16);
        fault("rank 1 if ([1) < 2", 13);
        fault("rank 1 if (1) < 2", 12);
        fault("rank 1 if 1 < 2 if 1 < 2", 16);
        fault("rank 1 <= 2", 7);
        fault("rank 1 if 1 <= 2", 13);
        fault("rank 1 times 2", 7);
        fault("rank 1;", 7);
        fault("rank 1; ", 8);
        fault(";rank 1", 0);
        fault("rank 1;;rank 2", 7);
        fault("rank 1 bars", 7);
        fault("bars 1", 5);
        fault("bars length", 5);
        fault("pray 1 for 1 of 1", 0);
        fault("dawn", 0);
        fault("rankk 1", 0);
        fault("Rank 1", 0);
        fault("rank\t1", 4);
        fault("rank 1\n", 6);
        fault("rank Length", 5);
        fault("rank lengths", 5);
        fault("rank prayers", 5);
        fault("rank said 1", 5);
        fault("rank 1,", 6);
        fault("rank " + (char) 233, 5);
        fault("rank " + (char) 0, 5);
        fault("rank1if1<2", -1);
        fault("rank 1 if not1<2", -1);
        fault("rank 1 if notnot 1<2", 10);
        fault("rank length*voices/asker%age+thing-waits*day-mood", -1);
        fault("rank 1 if not not (not 1 < 2 or 3 = 4 and 5 > 6)", -1);
        fault("breath [age + 1] * 2; bars if [age] = [[1]]; rank 0", -1);
    }

    private static String repeat(String text, int n) {
        StringBuilder all = new StringBuilder();
        for (int i = 0; i < n; i++) {
            all.append(text);
        }
        return all.toString();
    }

    private static void lawLimits() {
        Check.part("term II, limits");
        fault("bars" + repeat(";bars", 11), -1);
        fault("bars" + repeat(";bars", 12), 60);
        fault("bars" + repeat(";bars", 11) + ";", 60);
        fault("bars" + repeat(";bars", 11) + ";   x", 63);
        fault("rank 1" + repeat("+1", 49), -1);
        fault("rank 1" + repeat("+1", 50), 6 + 2 * 49 + 1);
        fault("rank age" + repeat("+ age", 50), 8 + 5 * 49 + 2);
        fault(repeat("rank 1 if 1 < 1 ;", 10) + repeat("rank 1 ", 1), -1);
        fault("rank 1" + repeat("+1", 24) + ";rank 1" + repeat("+1", 24), -1);
        fault("rank 1" + repeat("+1", 24) + ";rank 1" + repeat("+1", 24) + ";rank 1", 54 + 1 + 54 + 1 + 5);
        fault("rank " + repeat("[", 8) + "1" + repeat("]", 8), -1);
        fault("rank " + repeat("[", 9) + "1" + repeat("]", 9), 13);
        fault("bars if " + repeat("(", 8) + "1<2" + repeat(")", 8), -1);
        fault("bars if " + repeat("(", 9) + "1<2" + repeat(")", 9), 16);
        fault("bars if " + repeat("(", 5) + "[[[1]]]<[[[2]]]" + repeat(")", 5), -1);
        fault("bars if " + repeat("(", 5) + "[[[1]]]<[[[[2]]]]" + repeat(")", 5), 8 + 5 + 8 + 3);
        fault("bars if " + repeat("(1<2)or", 20) + "(1<2)", -1);
        fault("bars if " + repeat("not ", 90) + "1<2", -1);
        fault("bars if " + repeat("not ", 98), 400);
        fault("bars if " + repeat("not(", 8) + "1<2" + repeat(")", 8), -1);
        fault(repeat("z", 400), 0);
        fault("rank " + repeat("0", 395), -1);
        fault("rank " + repeat("[", 395), 13);
        ShortPrayers x = new ShortPrayers();
        due("as many parts", Check.law(x, "rank 1" + repeat("+1", 49)), 0);
        due("as many parts again", Check.law(x, "rank 1" + repeat("+1", 49)), 1);
        fault("rank 1" + repeat(" ", 394), -1);
    }

    /** The RANK by a LAW on day 5 of a PRAYER of person 1 (70) for thing 4, LENGTH 12, VOICES 3, said on day 0. */
    private static void ranked(String text, int want) {
        ShortPrayers x = village();
        x.pray(1, 4, 12, 3);
        x.terms(0, 5);
        x.terms(3, 8);
        due("force " + text, x.force(Check.law(x, text)), -1);
        due("rank by " + text, x.rank(0, 0), want);
        due("bars by " + text, x.rank(0, 1), 0);
    }

    private static void test(String text, int want) {
        // -1: BROKEN
        ranked("rank 0; rank 1 if " + text, want == -1 ? 0 : want);
        ranked("rank 0; rank 1 if not (" + text + ")", want == -1 ? 0 : 1 - want);
    }

    private static void lawValues() {
        Check.part("term II, values");
        ranked("rank length", 12);
        ranked("rank voices", 3);
        ranked("rank asker", 1);
        ranked("rank age", 70);
        ranked("rank thing", 4);
        ranked("rank waits", 6);
        ranked("rank day", 6);
        ranked("rank mood", 8);
        ranked("rank 2 + 3 * 4", 14);
        ranked("rank [2 + 3] * 4", 20);
        ranked("rank 10 - 4 - 3", 3);
        ranked("rank 100 / 5 / 2", 10);
        ranked("rank 100 / 5 * 2", 40);
        ranked("rank [0 - 7] / 2", -3);
        ranked("rank [0 - 7] % 2", -1);
        ranked("rank 7 % [0 - 2]", 1);
        ranked("rank 7 / [0 - 2]", -3);
        ranked("rank 7 / 0", 12);
        ranked("rank 7 % 0", 12);
        ranked("rank 9; rank 7 % 0", 9);
        ranked("rank 1000 * 10", 9999);
        ranked("rank 0 - 1000 * 10", -9999);
        ranked("rank 1000 * 10 - 1", 9999);
        ranked("rank 1000 * 10 - 2", 9998);
        ranked("rank 1000 * 1000 * 1000 - 1000 * 1000 * 1000 + 5", 5);
        ranked("rank 1000 * 1000 * 1000 / [1000 * 1000]", 1000);
        ranked("rank 1000 * 1000 * 1000 + 1 - 1", 12);
        ranked("rank 0 - 1000 * 1000 * 1000 - 1 + 1", 12);
        ranked("rank [0 - 1000 * 1000 * 1000] / [1000 * 1000]", -1000);
        ranked("rank 1000 * 1000 * 1000 * 1000 / 1000 / 1000 / 1000", 12);
        ranked("rank 1000*1000*1000*[1000*1000*1000]*[1000*1000*1000]", 12);
        ranked("rank 1; rank 2; rank 3", 3);
        ranked("rank 1; rank 2; rank 3 if 1 = 2", 2);
        ranked("rank 1; breath 5; bars if 1 = 2", 1);
        ranked("breath 5", 12);
        test("1 < 2", 1);
        test("2 < 1", 0);
        test("2 < 2", 0);
        test("2 > 1", 1);
        test("1 > 2", 0);
        test("2 > 2", 0);
        test("2 = 2", 1);
        test("2 = 1", 0);
        test("not 1 = 1", 0);
        test("not not 1 = 1", 1);
        test("not not not 1 = 1", 0);
        test("1 = 1 or 1 = 2 and 1 = 2", 1);
        test("(1 = 1 or 1 = 2) and 1 = 2", 0);
        test("1 = 2 and 1 = 2 or 1 = 1", 1);
        test("1 = 2 or 1 = 2 or 1 = 1", 1);
        test("1 = 1 and 1 = 1 and 1 = 2", 0);
        test("not 1 = 2 and 1 = 1", 1);
        test("not 1 = 1 or 1 = 1", 1);
        test("1 / 0 = 1", -1);
        test("1 = 1 / 0", -1);
        test("1 = 1 or 1 / 0 = 1", 1);
        test("1 = 2 or 1 / 0 = 1", -1);
        test("1 / 0 = 1 or 1 = 1", -1);
        test("1 = 2 and 1 / 0 = 1", 0);
        test("1 = 1 and 1 / 0 = 1", -1);
        test("1 / 0 = 1 and 1 = 2", -1);
        test("1 = 2 and 1 / 0 = 1 or 1 = 1", 1);
        test("1 = 1 or 1 / 0 = 1 and 1 = 1", 1);
        test("1 = 1 or 1 = 2 or 1 / 0 = 1", 1);
        test("1 = 2 and 1 = 1 and 1 / 0 = 1", 0);
        test("1 = 1 and (1 = 1 or 1 / 0 = 0)", 1);
        test("not 1 / 0 = 1", -1);
        ShortPrayers x = village();
        x.pray(0, 0, 5, 1);
        x.force(Check.law(x, "bars if age = 30; bars if 1 = 2"));
        due("any bars that holds", x.rank(0, 1), 1);
        x.force(Check.law(x, "bars"));
        due("bars without a test", x.rank(0, 1), 1);
        x.force(Check.law(x, "bars if 1 / 0 = 1"));
        due("bars by a broken test", x.rank(0, 1), 0);
        x.terms(0, 3);
        x.pray(0, 1, 5, 1);
        x.terms(0, 5);
        x.force(Check.law(x, "rank waits"));
        due("waits from the day on which it was said", x.rank(1, 0), 3);
        x.terms(0, 1);
        due("waits of one said later", x.rank(1, 0), -1);
        x.force(Check.law(x, "bars; rank 7"));
        due("the rank of one that is barred", x.rank(0, 0), 7);
    }

    private static void orderFault(String text, int want) {
        ShortPrayers x = village();
        int got = Check.orders(x, text);
        due("orders " + text, got == -6 ? 1 : 0, want == -1 ? 0 : 1);
        due("orders " + text + " fault()", x.fault(), want);
        if (want != -1) {
            due("orders " + text + " stopped()", x.stopped(), -1);
            due("orders " + text + " count(3)", x.count(3), 0);
            due("orders " + text + " status()", x.status(), -6);
        }
    }

    private static void orderFaults() {
        Check.part("term II, orders");
        orderFault("", 0);
        orderFault("   ", 3);
        orderFault("dawn", -1);
        orderFault("dawn times 20 if 1 < 2", -1);
        orderFault("dawn times 21", 11);
        orderFault("dawn times 1", -1);
        orderFault("dawn times 200", 11);
        orderFault("dawn times 020", -1);
        orderFault("dawn times 0", 11);
        orderFault("dawn times", 10);
        orderFault("dawn times done", 11);
        orderFault("dawn times 2 times 2", 13);
        orderFault("dawn if 1 < 2 times 2", 14);
        orderFault("dawn 1", 5);
        orderFault("pray 0 for 0 of 1", -1);
        orderFault("pray 0 of 0 for 1", 7);
        orderFault("pray for 0 of 1", 5);
        orderFault("pray 0 for 0 of 1 of 1", 18);
        orderFault("pray said 7 for granted 7 of 1", -1);
        orderFault("pray said for 1 of 1", 10);
        orderFault("pray granted 8 for 1 of 1", 13);
        orderFault("pray said 007 for 1 of 1", -1);
        orderFault("pray said 70 for 1 of 1", 10);
        orderFault("pray 0", 6);
        orderFault("pray 0 for 1", 12);
        orderFault("pray 0 for 1 ", 13);
        orderFault("pray said [1] for 1 of 1", 10);
        orderFault("pray age for 1 of 1", 5);
        orderFault("pray length for 1 of 1", 5);
        orderFault("rank 1", 0);
        orderFault("dawn;pray 0 for 0 of 1;dawn;", 28);
        orderFault("dawn;;dawn", 5);
        orderFault("dawn" + repeat(";dawn", 11), -1);
        orderFault("dawn" + repeat(";dawn", 12), 60);
        // T and TIMES are no PARTS, said and granted are one each
        orderFault("pray 0" + repeat("+said 1", 48) + " for", 6 + 48 * 7 + 4);
        orderFault("pray 0+" + repeat("done+", 47) + "0 for 0 of 1 times 3", -1 + 7 + 47 * 5 + 1 + 5 + 2 + 3 + 1);
        orderFault("pray 0+" + repeat("done+", 46) + "0 for 0 of 1 times 3", -1);
        orderFault("dawn if said 1 = granted 2 and day = prayers or waiting > done", -1);
    }

    private static void orders() {
        Check.part("promises 16, 18");
        ShortPrayers x = village();
        Check.taken(x, "orders", Check.orders(x, "pray 0 for 3 of 7;pray 1 for 2 of 9; dawn"), 3);
        due("count(9)", x.count(9), 0);
        due("stopped()", x.stopped(), -1);
        due("count(3)", x.count(3), 2);
        due("at(0, 3)", x.at(0, 3), 1);
        due("at(0, 4)", x.at(0, 4), 0);
        due("at(0, 5)", x.at(0, 5), 1);
        due("count(8)", x.count(8), 3);
        refused(x, "no person", Check.orders(x, "dawn times 4;pray 2 for 0 of 1"), -3);
        due("stopped()", x.stopped(), 1);
        due("fault()", x.fault(), -1);
        due("count(16)", x.count(16), 1);
        due("count(8)", x.count(8), 3);
        due("count(9)", x.count(9), 0);
        due("at(1, 5)", x.at(1, 5), 0);
        refused(x, "a sum that is broken", Check.orders(x, "dawn;dawn;pray 0 for 0 of 1/0"), -3);
        due("stopped()", x.stopped(), 2);
        refused(x, "a thing that can't be", Check.orders(x, "pray 0 for 8 of 1"), -3);
        due("stopped()", x.stopped(), 0);
        refused(x, "a length that can't be", Check.orders(x, "pray 0 for 0 of 100"), -3);
        refused(x, "an asker that can't be", Check.orders(x, "pray 0 - 1 for 0 of 9"), -3);
        due("nothing else is counted", x.count(10) + x.count(11), 0);
        refused(x, "-6", Check.orders(x, "dawn dawn"), -6);
        due("stopped()", x.stopped(), -1);
        due("fault()", x.fault(), 5);
        due("orders that run nothing", Check.orders(x, "dawn if 1 = 2;dawn times 3 if 1 / 0 = 1"), 0);
        due("status()", x.status(), 0);
        refused(x, "no room", Check.orders(x, "pray 0 for 0 of 1 times 15"), -5);
        due("stopped()", x.stopped(), 0);
        due("count(3)", x.count(3), 2);
        due("count(13)", x.count(13), 1);
        due("orders", Check.orders(x, "pray 0 for 0 of 1 times 14"), 14);
        refused(x, "no room, but a length that can't be", Check.orders(x, "pray 0 for 0 of 100"), -3);
        x.force(Check.law(x, "breath 5"));
        refused(x, "no room, but beyond the breath", Check.orders(x, "pray 0 for 0 of 6"), -3);
        refused(x, "no room", Check.orders(x, "pray 0 for 0 of 5"), -5);
        x.terms(0, 998);
        due("dawn", Check.orders(x, "dawn"), 1);
        refused(x, "dawn beyond", Check.orders(x, "dawn"), -3);
        x.terms(0, 990);
        refused(x, "dawn beyond", Check.orders(x, "pray 0 for 0 of 1 if 1 = 2; dawn times 10"), -3);
        due("stopped()", x.stopped(), 1);
        due("count(16)", x.count(16), 990);
        due("dawns", Check.orders(x, "dawn times 9"), 9);
        due("count(16)", x.count(16), 999);
        x.law();
        due("stopped() is of orders alone", x.stopped(), -1);
    }

    private static void orderRuns() {
        Check.part("term II, how orders run");
        ShortPrayers x = village();
        x.rule(3, 2, 1, -1);
        x.terms(2, 0);
        x.terms(0, 5);
        due("words", Check.orders(x, "pray 0 for prayers of 10;pray 1 for prayers of 10;"
            + "pray 0 for done + waiting of day;pray 0 for 7 of said 3"), 4);
        due("at(0, 1)", x.at(0, 1), 0);
        due("at(1, 1)", x.at(1, 1), 1);
        due("at(2, 1)", x.at(2, 1), 4);
        due("at(2, 2)", x.at(2, 2), 5);
        due("at(3, 2)", x.at(3, 2), 5);
        due("said without a wording", Check.orders(x, "pray 0 for 0 of 20 if said 0 = 0 - 1; dawn if said 3 = 5"), 2);
        due("at(4, 2)", x.at(4, 2), 20);
        // each time the if is asked anew, as the sums are
        due("times", Check.orders(x, "dawn times 20 if waiting > 2;pray 1 for done of granted 4 * 50 + granted 7 + 1"), 3);
        due("waiting", x.count(4), 3);
        due("at(5, 1)", x.at(5, 1), 2);
        due("at(5, 2)", x.at(5, 2), 52);
        due("count(8)", x.count(8), 9);
        due("the breath at the orders' day", x.force(Check.law(x, "breath day")), -1);
        due("count(16)", x.count(16), 8);
        due("beyond the breath", Check.orders(x, "pray 0 for 0 of 9"), -3);
        due("longer behind a dawn", Check.orders(x, "dawn; pray 0 for 0 of 9"), 2);
        due("a broken test is no stop", Check.orders(x, "pray 0 for 0 of 1 if 1 / 0 = 1; pray 0 for 0 of 1"), 1);
    }

    private static void force() {
        Check.part("promise 19");
        ShortPrayers x = village();
        refused(x, "force(0)", x.force(0), -2);
        Check.taken(x, "force(NONE)", x.force(-1), -1);
        refused(x, "force(-2)", x.force(-2), -2);
        Check.law(x, "rank 5");
        Check.law(x, "rank 6");
        due("count(15)", x.count(15), -1);
        Check.taken(x, "force(1)", x.force(1), -1);
        refused(x, "force(2)", x.force(2), -2);
        due("count(15)", x.count(15), 1);
        Check.taken(x, "force(0)", x.force(0), 1);
        x.pray(0, 0, 9, 1);
        due("rank", x.rank(0, 0), 5);
        Check.taken(x, "force(NONE)", x.force(-1), 0);
        due("rank", x.rank(0, 0), 9);
        due("count(15)", x.count(15), -1);
    }

    private static void say() {
        Check.part("promise 20");
        ShortPrayers x = village();
        due("say(0, 0)", x.say(0, 0), -1);
        due("say(0, 1)", x.say(0, 1), -1);
        due("say(0, 2)", x.say(0, 2), -1);
        due("say(0, 3)", x.say(0, 3), -1);
        due("say(8, 0)", x.say(8, 0), -1);
        due("say(-1, 0)", x.say(-1, 0), -1);
        x.rule(0, 10, -1, -1);
        due("said by itself alone: none", x.say(0, 0), -1);
        x.rule(1, 12, 12, 12);
        x.rule(2, 0, 13, -1);
        x.rule(3, 1, 2, -1);
        due("say(1, 0)", x.say(1, 0), 18);
        due("say(1, 1)", x.say(1, 1), 9);
        due("say(1, 2), each time it is taken", x.say(1, 2), 7);
        int[] words = {0, 1, 2, 0, 1, 2, 0, 1, 2};
        for (int i = 0; i < 9; i++) {
            due("say(1, 3 + " + i + ")", x.say(1, 3 + i), words[i]);
        }
        due("say(1, 12)", x.say(1, 12), -1);
        due("say(1, max)", x.say(1, Integer.MAX_VALUE), -1);
        due("say(1, -1)", x.say(1, -1), -1);
        // alike LENGTHS: the fewer RULES
        x.rule(1, 2, 2, 17);
        x.rule(7, 2, 2, 12);
        due("say(1, 0)", x.say(1, 0), 18);
        due("say(1, 2)", x.say(1, 2), 4);
        due("say(1, 3)", x.say(1, 3), 2);
        // alike RULES: the lowest RULE, then for the PARTS from the left
        ShortPrayers y = village();
        y.rule(0, 1, 1, -1);
        y.rule(0, 0, 2, -1);
        y.rule(1, 2, 0, -1);
        due("the lowest rule", y.say(0, 3), 1);
        y.rule(5, 10, 11, -1);
        y.rule(5, 11, 10, -1);
        due("say(5, 0)", y.say(5, 0), 8);
        due("say(5, 1)", y.say(5, 1), 4);
        due("say(5, 2)", y.say(5, 2), 3);
        int[] of5 = {1, 1, 2, 0};
        for (int i = 0; i < 4; i++) {
            due("say(5, 3 + " + i + ")", y.say(5, 3 + i), of5[i]);
        }
        due("fewer words are nothing by themselves", y.rule(0, 0, 1, 0), 5);
        due("say(0, 1)", y.say(0, 1), 2);
        // as deep as it goes
        ShortPrayers z = new ShortPrayers();
        z.word(9);
        for (int thing = 0; thing < 7; thing++) {
            z.rule(thing, 11 + thing, 11 + thing, 11 + thing);
        }
        z.rule(7, 0, 0, 0);
        due("say(0, 0)", z.say(0, 0), 59049);
        due("say(0, 1)", z.say(0, 1), 6561);
        due("say(0, 2)", z.say(0, 2), 3280);
        due("say(0, 6563)", z.say(0, 6563), 0);
        due("say(0, 6564)", z.say(0, 6564), -1);
    }

    private static void pray() {
        Check.part("promises 21, 22");
        ShortPrayers x = village();
        refused(x, "thing 8", x.pray(0, 8, 1, 1), -1);
        refused(x, "thing -1", x.pray(0, -1, 1, 1), -1);
        refused(x, "length 0", x.pray(0, 0, 0, 1), -1);
        refused(x, "length 100", x.pray(0, 0, 100, 1), -1);
        refused(x, "voices 0", x.pray(0, 0, 1, 0), -1);
        refused(x, "voices 7", x.pray(0, 0, 1, 7), -1);
        refused(x, "asker 2", x.pray(2, 0, 1, 1), -2);
        refused(x, "asker 2, voices 7", x.pray(2, 0, 1, 7), -1);
        x.force(Check.law(x, "breath 50"));
        refused(x, "length 51", x.pray(0, 0, 51, 1), -3);
        refused(x, "asker 2, length 51", x.pray(2, 0, 51, 1), -2);
        x.terms(0, 44);
        Check.taken(x, "pray", x.pray(1, 7, 50, 6), 0);
        int[] want = {1, 7, 50, 6, 44, 0, -1};
        for (int what = 0; what < 7; what++) {
            due("at(0, " + what + ")", x.at(0, what), want[what]);
        }
        due("at(0, 7)", x.at(0, 7), -1);
        due("at(0, -1)", x.at(0, -1), -1);
        due("at(1, 0)", x.at(1, 0), -1);
        due("at(-1, 0)", x.at(-1, 0), -1);
        for (int i = 1; i < 16; i++) {
            due("pray", x.pray(0, 0, i, 1), i);
        }
        refused(x, "no room", x.pray(0, 0, 1, 1), -5);
        refused(x, "no room, too long", x.pray(0, 0, 51, 1), -3);
        refused(x, "no room, asker 2", x.pray(2, 0, 1, 1), -2);
        refused(x, "no room, length 0", x.pray(0, 0, 0, 1), -1);
        due("count(3)", x.count(3), 16);
        due("count(4)", x.count(4), 16);
        due("count(8)", x.count(8), 16);
    }

    private static void rank() {
        Check.part("promise 23");
        ShortPrayers x = village();
        x.pray(0, 0, 5, 2);
        due("rank(0, 0)", x.rank(0, 0), 5);
        due("rank(0, 2)", x.rank(0, 2), -1000000);
        due("rank(0, -1)", x.rank(0, -1), -1000000);
        due("rank(1, 0)", x.rank(1, 0), -1000000);
        due("rank(-1, 1)", x.rank(-1, 1), -1000000);
        x.force(Check.law(x, "rank day; bars if day = 1000"));
        due("rank(0, 0)", x.rank(0, 0), 1);
        x.terms(0, 999);
        due("rank(0, 0) on day 999", x.rank(0, 0), 1000);
        due("rank(0, 1) on day 999", x.rank(0, 1), 1);
        x.terms(0, 998);
        due("rank(0, 1)", x.rank(0, 1), 0);
        x.dawn();
        due("one that was heard", x.rank(0, 0), -1000000);
        due("one that was heard", x.rank(0, 1), -1000000);
    }

    private static void order() {
        Check.part("promise 24");
        ShortPrayers x = village();
        due("order(NONE)", x.order(-1), 0);
        due("order(0)", x.order(0), -1);
        x.pray(0, 0, 9, 1);
        x.pray(1, 1, 7, 1);
        x.pray(0, 2, 7, 1);
        x.pray(0, 3, 3, 1);
        int[] want = {3, 1, 2, 0};
        for (int i = 0; i < 4; i++) {
            due("order(" + i + ")", x.order(i), want[i]);
        }
        due("order(NONE)", x.order(-1), 4);
        due("order(4)", x.order(4), -1);
        due("order(-2)", x.order(-2), -1);
        x.force(Check.law(x, "rank 0 - length; bars if asker = 1"));
        due("order(NONE)", x.order(-1), 3);
        due("order(0)", x.order(0), 0);
        due("order(1)", x.order(1), 2);
        due("order(2)", x.order(2), 3);
        due("order(3)", x.order(3), -1);
        due("order changes nothing", x.count(4), 4);
        x.force(Check.law(x, "rank 1000 * 10 - length; rank 1000 * [0 - 10] + length if asker = 1"));
        due("the highest rank", x.rank(0, 0), 9991);
        int[] far = {1, 0, 2, 3};
        for (int i = 0; i < 4; i++) {
            due("order(" + i + ")", x.order(i), far[i]);
        }
        x.force(Check.law(x, "rank 9 * 1000 + 999; rank 9 * 1000 + 998 if asker = 1; rank 1000 * 10 if thing = 3"));
        due("order(0)", x.order(0), 1);
        due("order(1)", x.order(1), 0);
        due("order(3), alike as nearest", x.order(3), 3);
        x.force(Check.law(x, "rank 9 * 1000 + 999; rank 1000 * 10 if thing = " + x.at(0, 1)));
        for (int i = 0; i < 4; i++) {
            due("order(" + i + "), all alike as nearest", x.order(i), i);
        }
        x.force(Check.law(x, "rank 0 - 9 * 1000 - 998; rank 0 - 9 * 1000 - 999 if thing = 2; rank 0 - 1000 * 10 if thing = 3"));
        due("order(0)", x.order(0), 2);
        due("order(1)", x.order(1), 3);
        due("order(2)", x.order(2), 0);
        for (int i = 4; i < 16; i++) {
            x.pray(0, 5, 50, 1);
        }
        x.force(-1);
        due("order(NONE) of all", x.order(-1), 16);
        due("order(15)", x.order(15), 15);
        due("order(16)", x.order(16), -1);
    }

    private static void dawn() {
        Check.part("promise 25");
        ShortPrayers x = village();
        Check.taken(x, "a dawn without prayers", x.dawn(), 0);
        due("count(16)", x.count(16), 1);
        x.terms(0, 0);
        x.pray(0, 0, 5, 1);
        x.pray(0, 0, 4, 1);
        x.pray(1, 1, 6, 1);
        x.pray(1, 2, 7, 1);
        x.pray(1, 0, 8, 1);
        x.clash(2, 1, 1);
        x.terms(1, 3);
        // 1 is GRANTED, 0 is DENIED (the same THING, 0 DAYS ago), 2 is GRANTED
        Check.taken(x, "dawn", x.dawn(), 2);
        due("at(0, 5)", x.at(0, 5), 2);
        due("at(0, 6)", x.at(0, 6), 1);
        due("at(1, 5)", x.at(1, 5), 1);
        due("at(2, 5)", x.at(2, 5), 1);
        due("at(3, 5)", x.at(3, 5), 0);
        x.terms(1, 1);
        Check.taken(x, "dawn, one that clashes", x.dawn(), 0);
        due("at(3, 5)", x.at(3, 5), 2);
        due("at(3, 6)", x.at(3, 6), 2);
        x.dawn();
        due("2 days ago", x.at(4, 5), 2);
        x.pray(0, 0, 3, 1);
        due("3 days ago", x.dawn(), 1);
        due("at(5, 6)", x.at(5, 6), 4);
        // HOLDS 0: nothing is DENIED
        x.terms(2, 0);
        x.terms(1, 4);
        x.pray(0, 0, 3, 1);
        x.pray(0, 0, 2, 1);
        due("holds 0", x.dawn(), 2);
        // one that went can't deny
        x.terms(2, 30);
        x.pray(0, 0, 3, 1);
        x.sweep();
        due("swept", x.dawn(), 1);
        x.terms(0, 999);
        refused(x, "day 999", x.dawn(), -3);
        due("count(16)", x.count(16), 999);
        // those that are BARRED go on waiting
        ShortPrayers y = village();
        y.pray(0, 0, 1, 1);
        y.pray(1, 1, 50, 1);
        y.force(Check.law(y, "bars if age < 50 and day < 3"));
        due("dawn", y.dawn(), 1);
        due("at(1, 5)", y.at(1, 5), 1);
        due("dawn", y.dawn(), 0);
        due("at(0, 5)", y.at(0, 5), 0);
        due("dawn", y.dawn(), 1);
        due("at(0, 6)", y.at(0, 6), 3);
    }

    private static void undo() {
        Check.part("promise 26");
        ShortPrayers x = village();
        refused(x, "nothing to undo", x.undo(), -3);
        x.pray(0, 0, 5, 1);
        x.pray(1, 0, 6, 1);
        x.terms(1, 4);
        refused(x, "behind terms", x.undo(), -3);
        x.pray(0, 1, 7, 1);
        x.dawn();
        due("count(8)", x.count(8), 2);
        due("a terms that is refused", x.terms(1, 5), -1);
        due("count(8)", x.count(8), 2);
        Check.taken(x, "undo", x.undo(), 1);
        due("count(16)", x.count(16), 0);
        for (int i = 0; i < 3; i++) {
            due("at(i, 5)", x.at(i, 5), 0);
            due("at(i, 6)", x.at(i, 6), -1);
        }
        Check.taken(x, "undo", x.undo(), 0);
        due("count(3)", x.count(3), 2);
        refused(x, "undo", x.undo(), -3);
        for (int i = 0; i < 20; i++) {
            x.dawn();
        }
        due("16 are kept", x.count(8), 16);
        for (int i = 0; i < 16; i++) {
            due("undo", x.undo(), 1);
        }
        due("the oldest ones stay done", x.count(16), 4);
        due("at(0, 5)", x.at(0, 5), 1);
        refused(x, "undo", x.undo(), -3);
        Check.orders(x, "pray 0 for 3 of 3;dawn;pray 1 for 4 of 4");
        due("orders can be undone", x.undo(), 0);
        due("orders can be undone", x.undo(), 1);
        due("orders can be undone", x.undo(), 0);
        x.pray(0, 0, 5, 1);
        x.sweep();
        refused(x, "behind sweep", x.undo(), -3);
        x.pray(0, 0, 5, 1);
        Check.feed(x, 0);
        x.row();
        refused(x, "behind row", x.undo(), -3);
        x.image(0);
        x.pray(0, 0, 5, 1);
        x.back(1);
        due("a back that is refused", x.count(8), 1);
        x.back(0);
        refused(x, "behind back", x.undo(), -3);
    }

    private static void sweep() {
        Check.part("promise 27");
        ShortPrayers x = village();
        due("sweep()", x.sweep(), 0);
        x.pray(0, 0, 5, 1);
        x.pray(1, 1, 3, 2);
        x.pray(0, 2, 9, 3);
        x.pray(1, 1, 4, 4);
        x.dawn();
        x.dawn();
        due("sweep()", x.sweep(), 2);
        due("count(3)", x.count(3), 2);
        due("at(0, 2)", x.at(0, 2), 5);
        due("at(1, 2)", x.at(1, 2), 9);
        due("at(1, 3)", x.at(1, 3), 3);
        due("at(2, 0)", x.at(2, 0), -1);
        due("count(8)", x.count(8), 0);
        due("sweep()", x.sweep(), 0);
    }

    private static void code() {
        Check.part("promise 28");
        ShortPrayers x = village();
        due("nothing is asked", x.code(3, 0), 0);
        due("nothing is asked", x.code(3, 1), -1);
        x.often(4, 7);
        due("one thing", x.code(6, 0), 14);
        due("one thing", x.code(6, 5), 2);
        due("another one", x.code(6, 4), -1);
        x.often(1, 7);
        due("alike ones: the lower thing is shorter", x.code(6, 0), 35);
        due("of thing 1", x.code(6, 2), 2);
        due("of thing 4", x.code(6, 5), 3);
        due("three letters, two are enough", x.code(7, 0), 21);
        due("the shortest of three", x.code(7, 2), 1);
        due("the second of three", x.code(7, 5), 2);
        x.often(6, 1);
        due("each of three letters", x.code(7, 0), 7 + 14 + 3);
        due("the third of three", x.code(7, 7), 3);
        x.often(6, 0);
        due("one letter", x.code(1, 0), -1);
        due("no letter", x.code(0, 0), -1);
        due("letters that are not there", x.code(9, 0), -1);
        due("letters that are not there", x.code(1027, 0), -1);
        due("letters below 0", x.code(-1, 0), -1);
        due("what 9", x.code(3, 9), -1);
        due("what -1", x.code(3, -1), -1);
        x.word(4);
        due("four letters", x.code(15, 0), -1);
        letterOrders();
        for (int thing = 0; thing < 6; thing++) {
            x.often(thing, 1);
        }
        // LENGTHS 1 and 1: a tree of 6 leaves, 2 2 3 3 3 3 in the row that is first
        x.word(1);
        due("six things", x.code(17, 0), 16);
        int[] want = {2, 2, 3, 3, 3, 3, -1, -1};
        for (int thing = 0; thing < 8; thing++) {
            due("code of thing " + thing, x.code(17, 1 + thing), want[thing]);
        }
        x.often(7, 1);
        due("seven things", x.code(17, 0), -1);
        x.often(0, 0);
        due("six again", x.code(17, 0), 16);
        due("thing 0", x.code(17, 1), -1);
        due("thing 7", x.code(17, 8), 3);
    }

    private static void letterOrders() {
        int[][] lengths = {{1, 1, 9}, {1, 9, 1}, {9, 1, 1}};
        for (int[] each : lengths) {
            ShortPrayers x = new ShortPrayers();
            for (int length : each) {
                x.word(length);
            }
            x.often(2, 3);
            due("one thing", x.code(7, 0), 3);
            due("one thing", x.code(7, 3), 1);
            x.often(5, 4);
            due("the dear letter is not taken", x.code(7, 0), 7);
            x.often(0, 4);
            due("deeper by the cheap ones", x.code(7, 0), 4 + 8 + 6);
            due("the first as a row", x.code(7, 1), 1);
            due("thing 2", x.code(7, 3), 2);
            due("thing 5", x.code(7, 6), 2);
        }
    }

    private static void bundles() {
        Check.part("promises 29, 30");
        ShortPrayers x = new ShortPrayers();
        refused(x, "things 0", x.bundle(0, 1), -1);
        refused(x, "things 256", x.bundle(256, 1), -1);
        refused(x, "things -1", x.bundle(-1, 1), -1);
        refused(x, "length 0", x.bundle(1, 0), -1);
        refused(x, "length 100", x.bundle(1, 100), -1);
        due("cover without bundles", x.cover(1, 0), -1);
        Check.taken(x, "bundle", x.bundle(1, 5), 0);
        Check.taken(x, "bundle", x.bundle(2, 5), 1);
        due("cover", x.cover(3, 0), 10);
        due("cover", x.cover(3, 1), 3);
        due("cover(1)", x.cover(1, 0), 5);
        due("cover(1)", x.cover(1, 1), 1);
        x.bundle(3, 10);
        due("the fewest", x.cover(3, 1), 4);
        x.bundle(3, 10);
        due("the lowest", x.cover(3, 1), 4);
        x.bundle(255, 99);
        due("cover", x.cover(131, 0), 99);
        due("cover", x.cover(131, 1), 16);
        due("cover(0)", x.cover(0, 0), -1);
        due("cover(256)", x.cover(256, 0), -1);
        due("cover(-1)", x.cover(-1, 0), -1);
        due("what 2", x.cover(1, 2), -1);
        due("what -1", x.cover(1, -1), -1);
        x.bundle(4, 1);
        x.bundle(8, 1);
        x.bundle(16, 1);
        x.bundle(32, 1);
        x.bundle(64, 1);
        refused(x, "no room", x.bundle(1, 1), -5);
        due("cover", x.cover(127, 0), 15);
        due("cover", x.cover(127, 1), 4 + 32 + 64 + 128 + 256 + 512);
        due("cover", x.cover(255, 1), 16);
        due("count(5)", x.count(5), 10);
        ShortPrayers y = new ShortPrayers();
        y.bundle(255, 9);
        for (int thing = 0; thing < 8; thing++) {
            y.bundle(1 << thing, 1);
        }
        due("as many as there are things", y.cover(255, 0), 8);
        due("as many as there are things", y.cover(255, 1), 510);
        y.bundle(128, 1);
        due("the lowest of them", y.cover(255, 1), 510);
    }

    private static void when() {
        Check.part("promise 31");
        ShortPrayers x = village();
        x.pray(0, 0, 5, 1);
        x.pray(1, 0, 4, 1);
        x.pray(1, 1, 9, 1);
        due("when", x.when(0, 50, 0), 2);
        due("when", x.when(0, 50, 1), 0);
        due("when", x.when(1, 1, 0), 1);
        due("when", x.when(1, 1, 1), 1);
        due("not within", x.when(0, 1, 0), -1);
        due("not within", x.when(0, 1, 1), -1);
        due("n 0", x.when(1, 0, 0), -1);
        due("n 51", x.when(1, 51, 0), -1);
        due("what 2", x.when(1, 5, 2), -1);
        due("what -1", x.when(1, 5, -1), -1);
        due("prayer 3", x.when(3, 5, 0), -1);
        due("prayer -1", x.when(-1, 5, 0), -1);
        due("nothing changed", x.count(16), 0);
        due("status", x.status(), 0);
        x.dawn();
        due("one that was heard", x.when(1, 5, 0), -1);
        x.force(Check.law(x, "bars if day < 51"));
        due("barred for long", x.when(0, 49, 0), -1);
        due("barred for long", x.when(0, 50, 0), 51);
        due("barred for long", x.when(0, 50, 1), 1);
        x.force(-1);
        x.terms(0, 998);
        due("the last day", x.when(0, 5, 0), 999);
        due("behind the last day", x.when(2, 5, 0), -1);
        x.terms(0, 999);
        due("on the last day", x.when(0, 5, 0), -1);
    }

    private static void longest() {
        Check.part("promise 32");
        ShortPrayers x = village();
        due("alone", x.longest(0, 0, 1), 99);
        x.pray(0, 0, 10, 1);
        due("shorter than another", x.longest(0, 1, 1), 9);
        due("asker 2", x.longest(2, 0, 1), -1);
        due("asker -1", x.longest(-1, 0, 1), -1);
        due("thing 8", x.longest(0, 8, 1), -1);
        due("thing -1", x.longest(0, -1, 1), -1);
        due("voices 0", x.longest(0, 0, 0), -1);
        due("voices 7", x.longest(0, 0, 7), -1);
        x.force(Check.law(x, "rank length - voices * 2; breath 3 if asker = 1; breath 0 if mood = 1"));
        due("by voices", x.longest(0, 1, 6), 19);
        due("as long as the breath", x.longest(1, 1, 6), 3);
        due("same thing, shorter", x.longest(0, 0, 1), 9);
        x.terms(1, 2);
        due("heard behind, but for the same thing", x.longest(0, 0, 1), 9);
        due("heard behind", x.longest(0, 1, 1), 99);
        x.clash(0, 1, 1);
        due("heard behind, but it clashes", x.longest(0, 1, 1), 9);
        x.terms(3, 1);
        due("no breath", x.longest(0, 1, 1), -1);
        x.terms(3, 0);
        for (int i = 1; i < 16; i++) {
            x.pray(0, 7, 50, 1);
        }
        due("room aside", x.longest(0, 2, 1), 49);
        x.terms(0, 999);
        due("day 999", x.longest(0, 2, 1), -1);
        x.terms(0, 998);
        due("day 998", x.longest(0, 2, 1), 49);
        due("count(3)", x.count(3), 16);
        // not by the LENGTHS' order
        ShortPrayers y = village();
        y.force(Check.law(y, "bars if length > 40 or length < 20"));
        due("barred if too long", y.longest(0, 0, 1), 40);
        y.force(Check.law(y, "bars if length > 1"));
        due("length 1", y.longest(0, 0, 1), 1);
        y.terms(0, 7);
        y.force(Check.law(y, "bars if day = 8 and waits = 1 and length > 12"));
        due("by the new day", y.longest(0, 0, 1), 12);
        y.force(Check.law(y, "bars"));
        due("none", y.longest(0, 0, 1), -1);
    }

    private static void keep() {
        Check.part("promise 33");
        ShortPrayers x = village();
        x.pray(0, 0, 10, 1);
        x.pray(0, 0, 9, 1);
        due("denied as it is", x.keep(0, 20, 0, 1, 5), 0);
        due("one dawn", x.keep(1, 1, 0, 1, 5), 1);
        due("three dawns", x.keep(1, 3, 1, 1, 5), 3);
        due("eight dawns", x.keep(1, 8, 1, 1, 5), 8);
        due("nine dawns", x.keep(1, 9, 1, 1, 5), -1);
        due("by the same thing", x.keep(1, 3, 1, 0, 5), 1);
        due("length 1", x.keep(1, 1, 1, 0, 1), 1);
        x.force(Check.law(x, "rank length + voices * 4"));
        due("voices 1", x.keep(1, 1, 1, 0, 8), 1);
        x.force(-1);
        due("too long", x.keep(1, 3, 1, 0, 9), -1);
        due("n 0", x.keep(1, 0, 0, 1, 5), -1);
        due("n 21", x.keep(1, 21, 0, 0, 5), -1);
        due("n 20", x.keep(1, 20, 0, 0, 5), 1);
        due("asker 2", x.keep(0, 1, 2, 1, 5), -1);
        due("thing 8", x.keep(0, 1, 0, 8, 5), -1);
        due("thing -1", x.keep(0, 1, 0, -1, 5), -1);
        due("length 0", x.keep(0, 1, 0, 1, 0), -1);
        due("length 100", x.keep(0, 1, 0, 1, 100), -1);
        due("prayer 2", x.keep(2, 1, 0, 1, 5), -1);
        x.force(Check.law(x, "breath 4 if asker = 1"));
        due("beyond the breath", x.keep(0, 20, 1, 1, 5), -1);
        due("within the breath", x.keep(0, 20, 1, 1, 4), 0);
        x.force(-1);
        for (int i = 2; i < 16; i++) {
            x.pray(1, 5, 99, 1);
        }
        due("room aside", x.keep(1, 8, 1, 1, 5), 8);
        x.terms(0, 997);
        due("two dawns are left", x.keep(1, 20, 1, 1, 5), 2);
        x.terms(0, 999);
        due("no dawn is left", x.keep(1, 20, 1, 1, 5), 0);
        x.terms(0, 0);
        x.dawn();
        due("one that was heard", x.keep(1, 1, 0, 1, 5), -1);
        due("count(3)", x.count(3), 16);
    }

    private static void answers() {
        Check.part("promises 34, 35");
        ShortPrayers x = new ShortPrayers();
        refused(x, "k 0", x.answer(0, 0, 0), -1);
        refused(x, "k 10", x.answer(10, 0, 0), -1);
        refused(x, "thing 8", x.answer(1, 8, 0), -1);
        refused(x, "thing -1", x.answer(1, -1, 0), -1);
        refused(x, "is 2", x.answer(1, 0, 2), -1);
        refused(x, "is -1", x.answer(1, 0, -1), -1);
        due("forget()", x.forget(), 0);
        due("forget() is not one that is refused", x.status(), -1);
        for (int i = 1; i <= 6; i++) {
            Check.taken(x, "answer", x.answer(9, 7, 1), i);
        }
        refused(x, "no room", x.answer(1, 0, 0), -5);
        refused(x, "no room, k 0", x.answer(0, 0, 0), -1);
        due("count(6)", x.count(6), 6);
        due("forget()", x.forget(), 6);
        due("count(6)", x.count(6), 0);
        due("answer", x.answer(1, 0, 0), 1);
    }

    private static void hidden() {
        Check.part("promise 36");
        ShortPrayers x = new ShortPrayers();
        due("no people", x.hidden(-1), 0);
        due("no people", x.hidden(0), -1);
        x = village();
        due("no answers", x.hidden(-1), 480);
        due("the first", x.hidden(0), 0);
        due("the last", x.hidden(479), 479);
        due("beyond", x.hidden(480), -1);
        due("below", x.hidden(-2), -1);
        x.pray(0, 2, 10, 1);
        x.answer(1, 2, 0);
        // of LENGTHS 1 .. 9 for other THINGS, by both
        due("denied", x.hidden(-1), 2 * 7 * 9);
        due("the first", x.hidden(0), 0);
        due("the tenth", x.hidden(9), 30);
        due("behind thing 1", x.hidden(18), 90);
        due("the last", x.hidden(125), 240 + 7 * 30 + 8);
        x.answer(2, 2, 1);
        due("granted later", x.hidden(-1), 126);
        x.answer(3, 2, 1);
        due("not twice", x.hidden(-1), 0);
        due("not twice", x.hidden(0), -1);
        x.forget();
        x.answer(1, 2, 1);
        // by any PRAYER for the THING
        due("by any prayer", x.hidden(-1), 480 - 126);
        x.forget();
        x.answer(1, 4, 1);
        due("by the hidden one", x.hidden(-1), 18);
        due("by the hidden one", x.hidden(9), 240 + 4 * 30);
        x.force(Check.law(x, "breath 0; bars if asker = 1"));
        due("the breath aside", x.hidden(-1), 9);
        x.force(-1);
        for (int i = 1; i < 16; i++) {
            x.pray(0, 3, 99, 1);
        }
        due("room aside", x.hidden(-1), 18);
        ShortPrayers y = village();
        y.pray(0, 2, 10, 1);
        y.answer(1, 2, 0);
        y.force(Check.law(y, "rank length + voices"));
        due("voices 1", y.hidden(-1), 126);
        y.forget();
        y.terms(0, 4);
        y.force(Check.law(y, "bars if day < 13; bars if asker = 1; bars if waits < 9"));
        y.answer(9, 2, 0);
        due("at the ninth dawn", y.hidden(-1), 7 * 9);
        y.answer(9, 7, 1);
        due("at the ninth dawn", y.hidden(-1), 9);
        y.answer(8, 7, 1);
        due("not at the eighth", y.hidden(-1), 0);
        x.terms(0, 999);
        due("no dawn comes", x.hidden(-1), 0);
        x.forget();
        x.answer(1, 4, 0);
        due("no dawn comes", x.hidden(-1), 480);
        x.terms(0, 998);
        x.answer(2, 2, 0);
        x.answer(9, 2, 0);
        due("one dawn comes", x.hidden(-1), 480 - 18);
        x.answer(2, 2, 1);
        due("no second one comes", x.hidden(-1), 0);
    }

    private static void seasons() {
        Check.part("promises 37, 38");
        ShortPrayers x = new ShortPrayers();
        refused(x, "seed -1", x.season(-1, 1), -1);
        refused(x, "seed 1000001", x.season(1000001, 1), -1);
        refused(x, "n 0", x.season(0, 0), -1);
        refused(x, "n 61", x.season(0, 61), -1);
        refused(x, "no people", x.season(1000000, 60), -3);
        due("drawn", x.drawn(0, 0), -1);
        x.person(30);
        due("drawn ahead of a season", x.drawn(0, 0), -1);
        // s: 12345; 628841, thing 1; 621889, length 10
        Check.taken(x, "season", x.season(0, 1), 1);
        due("said", x.drawn(0, 0), 1);
        due("granted", x.drawn(0, 1), 1);
        due("denied", x.drawn(0, 2), 0);
        due("waits", x.drawn(0, 3), 0);
        due("what 4", x.drawn(0, 4), -1);
        due("what -1", x.drawn(0, -1), -1);
        due("person 1", x.drawn(1, 0), -1);
        due("person -1", x.drawn(-1, 0), -1);
        due("on paper", x.count(3), 0);
        due("on paper", x.count(16), 0);
        due("on paper", x.count(8), 0);
        refused(x, "refused", x.season(0, 0), -1);
        due("the latest one stays", x.drawn(0, 1), 1);
        // what was said ahead counts where it WAITS, is GRANTED in it, was GRANTED ahead of it
        x.pray(0, 7, 1, 1);
        x.pray(0, 6, 98, 1);
        due("season", x.season(0, 1), 1);
        due("said", x.drawn(0, 0), 1);
        due("granted", x.drawn(0, 1), 1);
        due("waits", x.drawn(0, 3), 2);
        x.dawn();
        due("a later dawn does not change it", x.drawn(0, 1), 1);
        due("a later dawn does not change it", x.drawn(0, 3), 2);
        due("season", x.season(0, 1), 1);
        due("said", x.drawn(0, 0), 1);
        due("granted ahead of it, in it", x.drawn(0, 1), 2);
        due("waits", x.drawn(0, 3), 1);
        // the last day: it is said, no DAWN comes
        x.terms(0, 999);
        due("season", x.season(0, 60), 0);
        due("said", x.drawn(0, 0), 1);
        due("granted ahead of it", x.drawn(0, 1), 1);
        due("waits", x.drawn(0, 3), 2);
        x.force(Check.law(x, "breath 9"));
        due("season", x.season(0, 60), 0);
        due("beyond the breath", x.drawn(0, 0), 0);
        x.terms(0, 0);
        x.force(-1);
        due("image", x.image(0), 0);
        x.season(77, 60);
        due("no more than there is room for", x.drawn(0, 0), 14);
        int waits = x.drawn(0, 3);
        x.back(0);
        due("images don't keep it", x.drawn(0, 0), 14);
        due("images don't keep it", x.drawn(0, 3), waits);
        x.person(5);
        for (int what = 0; what <= 3; what++) {
            due("one who came later", x.drawn(1, what), -1);
        }
        x.image(1);
        x.season(0, 0);
        due("one who came behind the latest that was not refused", x.drawn(1, 0), -1);
        // s: 12345, which is odd: the second one says it
        due("season", x.season(0, 1), 1);
        due("one who came ahead of the latest", x.drawn(1, 0), 1);
        due("granted", x.drawn(1, 1), 1);
        x.back(0);
        due("people by then", x.count(2), 1);
        due("one who was there in it", x.drawn(1, 0), 1);
        due("one who was there in it", x.drawn(1, 3), 0);
        due("what 4", x.drawn(1, 4), -1);
        due("none", x.drawn(2, 0), -1);
        due("season", x.season(0, 1), 1);
        x.back(1);
        due("the latest has one of both", x.drawn(1, 0), -1);
        ShortPrayers six = village();
        for (int i = 0; i < 6; i++) {
            six.person(i);
        }
        six.season(1, 60);
        int said = 0;
        for (int person = 0; person < 6; person++) {
            said += six.drawn(person, 0);
        }
        due("all six", said, 16);
        due("a seventh", six.drawn(6, 0), -1);
    }

    private static void standings() {
        Check.part("promise 38, how PRAYERS stand");
        ShortPrayers x = new ShortPrayers();
        x.person(0);
        x.person(0);
        x.terms(1, 4);
        x.pray(0, 5, 1, 1);
        x.pray(1, 5, 2, 1);
        x.pray(1, 5, 3, 1);
        x.pray(1, 2, 4, 1);
        due("dawn", x.dawn(), 2);
        // s: 12345, the second one; THING 1; LENGTH 10
        due("season", x.season(0, 1), 1);
        due("said", x.drawn(0, 0), 0);
        due("granted", x.drawn(0, 1), 1);
        due("denied", x.drawn(0, 2), 0);
        due("waits", x.drawn(0, 3), 0);
        due("said", x.drawn(1, 0), 1);
        due("granted", x.drawn(1, 1), 2);
        due("denied", x.drawn(1, 2), 2);
        due("waits", x.drawn(1, 3), 0);
        // one that said nothing in it is DENIED in it
        x.pray(0, 2, 9, 1);
        due("season", x.season(0, 1), 1);
        due("said", x.drawn(0, 0), 0);
        due("granted", x.drawn(0, 1), 1);
        due("denied in it", x.drawn(0, 2), 1);
        due("denied", x.drawn(1, 2), 2);
        x.undo();
        x.undo();
        due("what is undone does not change it", x.drawn(1, 2), 2);
        due("season", x.season(0, 1), 2);
        due("all but the drawn one are heard in it", x.drawn(0, 1), 1);
        due("all but the drawn one are heard in it", x.drawn(1, 1), 1);
        due("all but the drawn one are heard in it", x.drawn(1, 2), 2);
        due("all but the drawn one are heard in it", x.drawn(1, 3), 1);
        x.dawn();
        due("sweep", x.sweep(), 4);
        due("what went does not change it", x.drawn(1, 2), 2);
        due("season", x.season(0, 1), 1);
        due("what went is not there", x.drawn(0, 1), 0);
        due("what went is not there", x.drawn(1, 1), 1);
        due("what went is not there", x.drawn(1, 2), 0);
        // a row's counts as any other
        Check.feed(x, 0, 7, 1);
        due("row", x.row(), 1);
        due("season", x.season(0, 1), 2);
        due("a row's", x.drawn(0, 0), 0);
        due("a row's", x.drawn(0, 1), 1);
        // on paper there is no room for more
        ShortPrayers full = new ShortPrayers();
        full.person(0);
        full.terms(1, 4);
        for (int i = 0; i < 16; i++) {
            full.pray(0, 0, 1, 1);
            full.dawn();
        }
        due("none yet", full.drawn(0, 1), -1);
        due("season", full.season(7, 60), 0);
        due("said", full.drawn(0, 0), 0);
        due("granted", full.drawn(0, 1), 6);
        due("denied", full.drawn(0, 2), 10);
        due("waits", full.drawn(0, 3), 0);
    }

    /** The DRAWS once more: with EARS 4 and HOLDS 0 all that is said is GRANTED on its day. */
    private static void draws() {
        Check.part("term IV, draws");
        int[] seeds = {0, 1, 99, 500000, 999999, 1000000};
        for (int seed : seeds) {
            ShortPrayers x = village();
            x.person(9);
            x.terms(1, 4);
            x.terms(2, 0);
            x.force(Check.law(x, "breath 20; bars if voices > 1"));
            int[] said = new int[3];
            long s = seed;
            for (int day = 0; day < 12; day++) {
                s = (s * 1103 + 12345) % 1000003;
                int person = (int) (s % 3);
                s = (s * 1103 + 12345) % 1000003;
                s = (s * 1103 + 12345) % 1000003;
                said[person] += s % 40 + 1 <= 20 ? 1 : 0;
            }
            due("season " + seed, x.season(seed, 12), said[0] + said[1] + said[2]);
            for (int person = 0; person < 3; person++) {
                due("said", x.drawn(person, 0), said[person]);
                due("granted", x.drawn(person, 1), said[person]);
                due("denied", x.drawn(person, 2), 0);
                due("waits", x.drawn(person, 3), 0);
            }
            // a THING is DENIED behind itself
            x.terms(2, 30);
            x.force(-1);
            x.clash(0, 1, 1);
            int granted = x.season(seed, 12);
            int denied = x.drawn(0, 2) + x.drawn(1, 2) + x.drawn(2, 2);
            due("granted and denied", granted + denied, 12);
            due("as many as there are kinds", granted <= 8 ? 1 : 0, 1);
            due("granted", x.drawn(0, 1) + x.drawn(1, 1) + x.drawn(2, 1), granted);
        }
    }

    private static void images() {
        Check.part("promises 39, 40");
        ShortPrayers x = village();
        refused(x, "image(2)", x.image(2), -1);
        refused(x, "image(-1)", x.image(-1), -1);
        refused(x, "back(2)", x.back(2), -1);
        refused(x, "back(-1)", x.back(-1), -1);
        refused(x, "back(0)", x.back(0), -2);
        refused(x, "back(1)", x.back(1), -2);
        x.rule(0, 0, -1, -1);
        x.clash(0, 1, 1);
        x.often(0, 5);
        x.bundle(1, 7);
        x.answer(1, 1, 1);
        x.pray(0, 0, 10, 1);
        x.pray(0, 0, 20, 1);
        x.dawn();
        x.force(Check.law(x, "rank 7"));
        Check.taken(x, "image(0)", x.image(0), 0);
        due("count(8)", x.count(8), 3);
        x.word(9);
        x.rule(0, 1, -1, -1);
        x.clash(0, 1, 0);
        x.often(0, 6);
        x.person(1);
        x.bundle(2, 7);
        x.forget();
        x.sweep();
        x.dawn();
        x.terms(1, 2);
        x.terms(2, 2);
        x.terms(3, 2);
        x.force(Check.law(x, "rank 8"));
        Check.feed(x, "dawn,");
        x.orders();
        Check.feed(x, 0, 0, 0);
        x.row();
        Check.feed(x, "abc");
        due("fault", x.fault(), 4);
        Check.taken(x, "image(1)", x.image(1), 0);
        x.pray(0, 4, 4, 1);
        Check.taken(x, "back(0)", x.back(0), 0);
        int[] want = {3, 1, 2, 2, 1, 1, 1, 1, 0, 3};
        for (int what = 0; what < want.length; what++) {
            due("count(" + what + ")", x.count(what), want[what]);
        }
        due("count(10) is not kept", x.count(10), 4);
        due("count(11) is not kept", x.count(11), 2);
        due("count(15)", x.count(15), 0);
        due("count(16)", x.count(16), 1);
        due("count(17)", x.count(17), 1);
        due("count(18)", x.count(18), 3);
        due("count(19)", x.count(19), 0);
        due("clash", x.clash(0, 1, 1), 1);
        due("often", x.often(0, 5), 5);
        due("rank", x.rank(1, 0), 7);
        due("at(0, 5)", x.at(0, 5), 1);
        due("fault", x.fault(), 4);
        due("coughs", x.coughs(), 1);
        Check.taken(x, "back(1)", x.back(1), 0);
        due("count(7)", x.count(7), 2);
        due("count(3)", x.count(3), 1);
        due("rank", x.rank(0, 0), -1000000);
        due("count(15)", x.count(15), 1);
        Check.taken(x, "back(0) again", x.back(0), 0);
        due("count(3)", x.count(3), 2);
        due("the tape is not kept", x.count(9), 3);
        x.end(0);
        x.force(Check.law(x, "rank 9"));
        due("rank", x.rank(1, 0), 9);
        x.image(1);
        x.back(0);
        due("law of its own", Check.law(x, "rank 5"), 1);
        x.back(1);
        due("the law as it was then", x.rank(1, 0), 9);
        // LAW 0 itself may be another one
        ShortPrayers y = village();
        y.pray(0, 0, 5, 1);
        y.image(0);
        y.force(Check.law(y, "rank 11; breath 11"));
        y.image(1);
        y.back(0);
        y.force(Check.law(y, "rank 22"));
        due("rank", y.rank(0, 0), 22);
        y.back(1);
        due("rank", y.rank(0, 0), 11);
        due("breath", y.breath(0, 1), 11);
        y.back(0);
        due("rank", y.rank(0, 0), 5);
        due("count(7)", y.count(7), 0);
        // stopped() is not kept either
        x.orders();
        Check.orders(x, "pray 9 for 0 of 1");
        x.back(0);
        due("stopped", x.stopped(), 0);
    }

    private static void counts() {
        Check.part("promises 41, 42");
        ShortPrayers x = village();
        due("count(20)", x.count(20), -1);
        due("count(-1)", x.count(-1), -1);
        due("count(min)", x.count(Integer.MIN_VALUE), -1);
        Check.refused(x, "word", x.count(10), x.word(0), -1);
        Check.refused(x, "rule", x.count(10), x.rule(9, 0, 0, 0), -1);
        Check.refused(x, "rule", x.count(11), x.rule(0, 9, 0, 0), -2);
        Check.refused(x, "clash", x.count(10), x.clash(1, 1, 1), -1);
        Check.refused(x, "often", x.count(10), x.often(9, 1), -1);
        Check.refused(x, "person", x.count(10), x.person(-1), -1);
        Check.refused(x, "terms", x.count(10), x.terms(1, 0), -1);
        Check.refused(x, "row", x.count(14), x.row(), -6);
        Check.refused(x, "law", x.count(14), x.law(), -6);
        Check.refused(x, "orders", x.count(14), x.orders(), -6);
        Check.refused(x, "orders", x.count(12), Check.orders(x, "pray 7 for 7 of 7"), -3);
        Check.refused(x, "force", x.count(11), x.force(0), -2);
        Check.refused(x, "pray", x.count(10), x.pray(0, 0, 0, 0), -1);
        Check.refused(x, "pray", x.count(11), x.pray(5, 0, 1, 1), -2);
        Check.refused(x, "undo", x.count(12), x.undo(), -3);
        Check.refused(x, "bundle", x.count(10), x.bundle(0, 0), -1);
        Check.refused(x, "answer", x.count(10), x.answer(0, 0, 0), -1);
        Check.refused(x, "season", x.count(10), x.season(-1, 0), -1);
        Check.refused(x, "image", x.count(10), x.image(7), -1);
        Check.refused(x, "back", x.count(11), x.back(0), -2);
        // what is not among them leaves status() and count() as they were
        int refused = x.count(10) + x.count(11) + x.count(12) + x.count(13) + x.count(14);
        due("refused so far", refused, 20);
        x.lengthOf(99);
        x.of(99, 0);
        x.breath(9, 0);
        x.end(500);
        x.say(9, 0);
        x.at(9, 9);
        x.rank(9, 0);
        x.order(99);
        x.sweep();
        x.code(0, 0);
        x.cover(0, 0);
        x.when(9, 0, 0);
        x.longest(9, 9, 9);
        x.keep(9, 9, 9, 9, 9);
        x.forget();
        x.hidden(-5);
        x.drawn(9, 9);
        x.count(99);
        due("status()", x.status(), -2);
        due("refused", x.count(10) + x.count(11) + x.count(12) + x.count(13) + x.count(14), refused);
        Check.taken(x, "image", x.image(0), 0);
        x.terms(0, 999);
        Check.refused(x, "dawn", x.count(12), x.dawn(), -3);
        Check.taken(x, "terms", x.terms(0, 3), 999);
        due("count(16)", x.count(16), 3);
        for (int i = 0; i < 16; i++) {
            x.pray(0, 0, 1, 1);
        }
        Check.refused(x, "pray", x.count(13), x.pray(0, 0, 1, 1), -5);
        due("count(3)", x.count(3), 16);
        x.dawn();
        due("count(4)", x.count(4), 15);
        due("status()", x.status(), 0);
    }
}
