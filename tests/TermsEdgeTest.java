/** Each sentence of the Terms that names a boundary case, as far as EdgeTest and LaterEdgeTest don't have it. */
public final class TermsEdgeTest {
    private TermsEdgeTest() {
    }

    public static void main(String[] args) {
        everyByte();
        tokens();
        numbers();
        clauses();
        partsOfLaws();
        partsOfOrders();
        brackets();
        faultsAtTheEnd();
        manyTexts();
        values();
        tests();
        laws();
        words();
        ordersWords();
        times();
        wordings();
        dawns();
        daysAgo();
        draws();
        Check.close();
    }

    private static void due(String call, long got, long want) {
        Check.due(call, got, want);
    }

    private static String repeat(String text, int n) {
        return text.repeat(n);
    }

    /** FAULT of a LAW; -1, if it is one. */
    private static void law(String text, int fault) {
        ShortPrayers x = new ShortPrayers();
        Check.feed(x, text);
        due("law " + text, x.law(), fault < 0 ? 0 : -6);
        due("law " + text + ", status()", x.status(), fault < 0 ? 0 : -6);
        due("law " + text + ", fault()", x.fault(), fault);
        due("law " + text + ", count(7)", x.count(7), fault < 0 ? 1 : 0);
        due("law " + text + ", count(9)", x.count(9), 0);
        due("law " + text + ", count(14)", x.count(14), fault < 0 ? 0 : 1);
    }

    /** FAULT of ORDERS; -1, if they are such. */
    private static void orders(String text, int fault) {
        ShortPrayers x = new ShortPrayers();
        Check.orders(x, text);
        due("orders " + text + ", status()", x.status() == -6 ? 1 : 0, fault < 0 ? 0 : 1);
        due("orders " + text + ", fault()", x.fault(), fault);
        due("orders " + text + ", count(9)", x.count(9), 0);
        due("orders " + text + ", count(14)", x.count(14), fault < 0 ? 0 : 1);
        if (fault >= 0) {
            due("orders " + text + ", stopped()", x.stopped(), -1);
            due("orders " + text + ", count(8)", x.count(8), 0);
        }
    }

    private static void everyByte() {
        Check.part("term II, single other bytes");
        String goesOn = ";+-*/%";
        for (int sign = 0; sign < 256; sign++) {
            boolean whole = sign == ' ' || sign >= '0' && sign <= '9';
            law("rank 1" + (char) sign, whole ? -1 : goesOn.indexOf(sign) >= 0 ? 7 : 6);
            law((char) sign + "bars", sign == ' ' ? -1 : 0);
            boolean wholeOrders = sign == ' ';
            orders("dawn" + (char) sign, wholeOrders ? -1 : sign == ';' ? 5 : sign >= 'a' && sign <= 'z' ? 0 : 4);
        }
    }

    private static void tokens() {
        Check.part("term II, TOKENS");
        law("bars", -1);
        law("   bars   ", -1);
        law("bar s", 0);
        law("barsif 1 < 2", 0);
        law("bars if1<2", -1);
        law("bars if 1<2or 2<1", -1);
        law("bars if 1<2or2<1and 3=3", -1);
        law("bars if 1<2 andnot 1<2", 12);
        law("rank 1 0", 7);
        law("rank 1length", 6);
        law("rank length1", 11);
        law("rank len gth", 5);
        law("rank 2*length+3", -1);
        law("rank" + repeat(" ", 390) + "[1+2]", -1);
        law("rank" + repeat(" ", 394) + "[1", 400);
        law("rank " + repeat("9", 395), 5);
        law("rank " + repeat("0", 392) + "999", -1);
        law("rank " + repeat("x", 395), 5);
        law("BARS", 0);
        law("bars;Bars", 5);
        orders("dawn  ;  dawn", -1);
        orders("dawntimes 2", 0);
        orders("dawn times2", -1);
        orders("dawn times 2if 1<2", -1);
        orders("da wn", 0);
        orders("pray0for 0of 1", -1);
        orders("pray0for0of1times1if1<1", -1);
        orders("pray 0 fo 0", 7);
        orders("pray 0 0 of 1", 7);
        orders("pray 0 for 0 0", 13);
        orders("pray 0 for 0 for 0", 13);
        orders("pray 0 of 0 of 0", 7);
    }

    private static void numbers() {
        Check.part("term II, NUMBERS");
        String[] good = {"0", "1", "999", "1000", "00", "0001000", "0999"};
        String[] bad = {"1001", "1010", "1100", "2000", "10000", "0001001", "4294967296", "4294967297", "2147483648",
            "18446744073709551616", "18446744073709551617"};
        for (String number : good) {
            law("rank " + number, -1);
            orders("dawn if 1 < " + number, -1);
        }
        for (String number : bad) {
            law("rank " + number, 5);
            law("rank 1;rank 2 if 1 < " + number, 21);
            orders("dawn if 1 < " + number, 12);
            orders("dawn times " + number, 11);
            orders("dawn if said " + number + " = 1", 13);
        }
        for (int times = 0; times <= 30; times++) {
            orders("dawn times " + times + " if 1 < 0", times >= 1 && times <= 20 ? -1 : 11);
        }
        for (int thing = 0; thing <= 18; thing++) {
            orders("dawn if said " + thing + " = 1", thing <= 7 ? -1 : 13);
            orders("dawn if granted " + thing + " = 1", thing <= 7 ? -1 : 16);
        }
        orders("dawn if said [1] = 1", 13);
        orders("dawn if said day = 1", 13);
        orders("dawn if said", 12);
        orders("dawn if granted = 1", 16);
        orders("dawn times [1]", 11);
        orders("dawn times -1", 11);
        orders("dawn times 1+1", 12);
        orders("dawn times", 10);
        law("rank said 1", 5);
    }

    private static void clauses() {
        Check.part("term II, 12 CLAUSES");
        law("bars" + repeat(";bars", 11), -1);
        law("bars" + repeat(";bars", 11) + repeat(" ", 341), -1);
        law("bars" + repeat(";bars", 12), 60);
        law("bars" + repeat(";bars", 11) + "; bars", 61);
        law("bars" + repeat(";bars", 11) + ";", 60);
        law("bars" + repeat(";bars", 11) + ";  ", 62);
        law("bars" + repeat(";bars", 11) + ";;", 60);
        law("bars" + repeat(";bars", 11) + ",", 59);
        law("bars" + repeat(";bars", 11) + ";" + repeat("x", 340), 60);
        law(repeat("rank 1;breath 2;bars;", 4).replaceAll(";$", ""), -1);
        orders("dawn" + repeat(";dawn", 11), -1);
        orders("dawn" + repeat(";dawn", 12), 60);
        orders("dawn" + repeat(";dawn", 11) + ";pray", 60);
        orders("dawn" + repeat(";dawn", 11) + ";", 60);
        law(";", 0);
        law(";bars", 0);
        law("bars;;bars", 5);
        law("bars;", 5);
        law("bars;  ", 7);
        orders(";", 0);
        orders("dawn;", 5);
    }

    private static void partsOfLaws() {
        Check.part("term II, 50 PARTS");
        String fifty = "rank 1" + repeat("+1", 49);
        law(fifty, -1);
        law(fifty + ";bars", -1);
        law(fifty + "+1", fifty.length() + 1);
        law(fifty + "+ length", fifty.length() + 2);
        law(fifty + "+1001", fifty.length() + 1);
        law(fifty + "+;", fifty.length() + 1);
        law(fifty + "+[1]", fifty.length() + 2);
        law(fifty + ";rank 1", fifty.length() + 6);
        law(fifty + " if 1 < 2", fifty.length() + 4);
        law(fifty + "+", fifty.length() + 1);
        String words = "rank mood" + repeat("*mood", 49);
        law(words, -1);
        law(words + "*mood", words.length() + 1);
        // of all CLAUSES together, their TESTS, too
        String tests = repeat("bars if 1<2;", 11);
        law(tests + "bars if 1<2", -1);
        String most = tests + "rank 1+1 if 1<2 or 1<age and 1<[1" + repeat("+1", 20) + "]";
        law(most, -1);
        law(most + "*1", most.length() + 1);
        law(most + "or not 1<2", most.length() + 7);
        law("bars if " + repeat("[1]<2or", 24) + "1<2", -1);
        law("bars if " + repeat("[1]<2or", 25) + "1<2", 8 + 25 * 7);
    }

    private static void partsOfOrders() {
        Check.part("term II, 50 PARTS of ORDERS");
        String head = "pray 0 for 0 of 0";
        String fifty = head + repeat("+said 7", 47);
        orders(fifty, -1);
        // T and TIMES aside
        orders(fifty + " times 20;dawn times 20", -1);
        orders(fifty + "+said 7", fifty.length() + 1);
        orders(fifty + "+granted 9", fifty.length() + 1);
        orders(fifty + "+0", fifty.length() + 1);
        orders(fifty + "+day", fifty.length() + 1);
        orders(fifty + " times 20 if 1 < 2", fifty.length() + 13);
        orders(fifty + ";pray 0", fifty.length() + 6);
        orders(head + repeat("+said 7", 46) + "+said 8", 17 + 46 * 7 + 6);
    }

    private static void brackets() {
        Check.part("term II, 8 brackets");
        for (int round = 0; round <= 9; round++) {
            for (int square = 0; round + square <= 9; square++) {
                String left = repeat("(", round) + repeat("[", square) + "1" + repeat("]", square) + "<2" + repeat(")", round);
                String right = repeat("(", round) + "1<" + repeat("[", square) + "2" + repeat("]", square) + repeat(")", round);
                boolean whole = round + square <= 8;
                law("bars if " + left, whole ? -1 : 16);
                law("bars if " + right, whole ? -1 : round == 9 ? 16 : 8 + round + 2 + square - 1);
                orders("dawn if " + left, whole ? -1 : 16);
                law("bars if 3<4 and not " + left + ";bars if " + left, whole ? -1 : 28);
            }
        }
        // one behind another one is not within it
        law("rank " + repeat("[1]+", 30) + "[1]", -1);
        law("bars if " + repeat("(1<2)or", 15) + repeat("(", 8) + "1<2" + repeat(")", 8), -1);
        law("rank [[[[[[[[1]]]]]]]]+[[[[[[[[1]]]]]]]]", -1);
        law("rank [[[[[[[[1]]]]]]]]+[[[[[[[[[1", 5 + 17 + 1 + 8);
        law("rank [[[[[[[1]+[1]]]]]]]", -1);
        law("rank [[[[[[[[1]+[1]]]]]]]]", -1);
        law("rank [[[[[[[[1+[1]]]]]]]]]", 15);
        law("bars if (((((((([1", 16);
        law("rank [", 6);
        law("rank []", 6);
        law("rank [1", 7);
        law("rank [1)", 7);
        law("bars if ()", 9);
        law("bars if (1)", 10);
        law("bars if (1<2", 12);
        law("bars if (1<2]", 12);
        law("bars if [1<2]", 10);
        law("rank (1)", 5);
        law("bars if ((1<2) or 1<2", 21);
        law("bars if (1)<2", 10);
        law("bars if (1<2)<2", 13);
        law("bars if 1<(2)", 10);
        law("bars if not[1]<2", -1);
        law("bars if not", 11);
    }

    private static void faultsAtTheEnd() {
        Check.part("term II, FAULT at the end: the TEXT's length");
        String[] open = {"rank", "rank 1+", "rank 1 if", "rank 1 if 1", "rank 1 if 1<", "rank 1 if 1<2 and", "rank 1 if not",
            "rank 1 if (", "rank 1 if (1<2", "rank [", "rank [1", "breath", "bars if", "bars;"};
        for (String text : open) {
            for (int blanks = 0; blanks <= 3; blanks++) {
                law(text + repeat(" ", blanks), text.length() + blanks);
            }
            law(text + repeat(" ", 400 - text.length()), 400);
            law(text + "?", text.length());
            law(text + " ?", text.length() + 1);
        }
        String[] openOrders = {"pray", "pray 0", "pray 0 for", "pray 0 for 0", "pray 0 for 0 of", "dawn times", "dawn if",
            "dawn if said", "dawn;"};
        for (String text : openOrders) {
            orders(text + "  ", text.length() + 2);
            orders(text, text.length());
            orders(text + " ?", text.length() + 1);
        }
    }

    /** Each TEXT is read anew, however many were read ahead of it. */
    private static void manyTexts() {
        Check.part("term II, many TEXTS");
        ShortPrayers x = new ShortPrayers();
        x.person(0);
        x.pray(0, 0, 5, 1);
        String spoiled = "rank 1" + repeat("+1", 49) + "?";
        for (int i = 0; i < 15; i++) {
            due("spoiled", Check.law(x, spoiled), -6);
            due("fault", x.fault(), 104);
        }
        due("law", x.force(Check.law(x, "rank 1" + repeat("+1", 49))), -1);
        due("rank", x.rank(0, 0), 50);
        for (int i = 0; i < 10; i++) {
            due("orders", Check.orders(x, "dawn if 1=2" + repeat(" or 1=2", 23)), 0);
        }
        due("orders", Check.orders(x, "dawn if 1=2" + repeat(" or 1=2", 22) + " or 1=1"), 1);
        due("count(16)", x.count(16), 1);
    }

    /** The RANK by a LAW of one of LENGTH 77, said on DAY 0; 77 if the SUM is BROKEN. */
    private static void ranks(String sum, int want) {
        ShortPrayers x = new ShortPrayers();
        x.person(0);
        x.pray(0, 0, 77, 1);
        x.force(Check.law(x, "rank " + sum));
        due("rank " + sum, x.rank(0, 0), want);
    }

    private static void values() {
        Check.part("term II, values");
        String most = "1000*1000*1000";
        int broken = 77;
        ranks(most, 9999);
        ranks("0-" + most, -9999);
        ranks(most + "+1", broken);
        ranks("1+" + most, broken);
        ranks("0-" + most + "-1", broken);
        ranks("0-" + most + "-0", -9999);
        ranks(most + "+1-1", broken);
        ranks(most + "-1+1", 9999);
        ranks(most + "*1", 9999);
        ranks(most + "*2", broken);
        ranks("[0-" + most + "]*[0-1]", 9999);
        ranks("[0-" + most + "]/[0-1]", 9999);
        ranks(most + "*[0-1]", -9999);
        ranks(most + "*[0-2]", broken);
        ranks("[" + most + "]*[" + most + "]", broken);
        ranks("[0-" + most + "]*[" + most + "]", broken);
        ranks(most + "/1000/1000/1000", 1);
        ranks(most + "%[" + most + "]", 0);
        ranks("[" + most + "+1]*0", broken);
        ranks("0*[1/0]", broken);
        ranks("0/1", 0);
        ranks("1/0", broken);
        ranks("0/0", broken);
        ranks("1%0", broken);
        ranks("0%0", broken);
        ranks("1/[1-1]", broken);
        ranks("7/2", 3);
        ranks("[0-7]/2", -3);
        ranks("7/[0-2]", -3);
        ranks("[0-7]/[0-2]", 3);
        ranks("7%2", 1);
        ranks("[0-7]%2", -1);
        ranks("7%[0-2]", 1);
        ranks("[0-7]%[0-2]", -1);
        ranks("1/2", 0);
        ranks("[0-1]/2", 0);
        ranks("9*1000+999", 9999);
        ranks("10*1000", 9999);
        ranks("9*1000+998", 9998);
        ranks("0-9*1000-999", -9999);
        ranks("0-10*1000", -9999);
        ranks("0-9*1000-998", -9998);
    }

    private static void tests() {
        Check.part("term II, TESTS");
        String broken = most("<") + " or 1=1";
        String[] so = {"1=1 or 1/0=1", "1=1 or 1/0=1 or 1/0=1", "not 1=2", "not (1=2 and 1/0=1)", "1=1 or 1/0=1 and 1/0=1",
            "1=2 and 1/0=1 or 1=1", "(1=1 or 1/0=1) and 1=1", "not not not 1=2", "1000*1000*1000>999", "0-1<0"};
        String[] notSo = {"1=2 and 1/0=1", "1=2 and 1=1 and 1/0=1", "1=2 or 1=2 and 1/0=1", "not (1=1 or 1/0=1)", "1<1", "1>1",
            "2=1", "not not 1=2"};
        String[] neither = {"1/0=1 or 1=1", "1/0=1 and 1=2", "1=2 or 1/0=1", "1=1 and 1%0=1", "not 1/0=1", "1=1/0", "1/0=1/0",
            "(1/0=1) or 1=1", "not (1/0=1) or 1=1", "1=2 or 1/0=1 or 1=1", broken, "1=1 and (1=2 or 1/0=1)"};
        for (String test : so) {
            ranks("5;rank 6 if " + test, 6);
            ranks("5;rank 6 if not (" + test + ")", 5);
            due("dawn if " + test, Check.orders(new ShortPrayers(), "dawn if " + test), 1);
        }
        for (String test : notSo) {
            ranks("5;rank 6 if " + test, 5);
            ranks("5;rank 6 if not (" + test + ")", 6);
            due("dawn if " + test, Check.orders(new ShortPrayers(), "dawn if " + test), 0);
        }
        for (String test : neither) {
            ranks("5;rank 6 if " + test, 5);
            ranks("5;rank 6 if not (" + test + ")", 5);
            // it is not run, and that is no reason to stop
            due("dawn if " + test, Check.orders(new ShortPrayers(), "dawn if " + test + ";dawn;dawn"), 2);
        }
    }

    private static String most(String how) {
        return "1000*1000*1000+1" + how + "1";
    }

    private static void laws() {
        Check.part("term II, CLAUSES that HOLD");
        ranks("5;rank 6;rank 7", 7);
        ranks("5;rank 6;rank 7 if 1=2", 6);
        ranks("5;rank 6;rank 1/0", 6);
        ranks("5;rank 6 if 1/0=1;rank 7/0 if 1=1", 5);
        ranks("5/0", 77);
        ranks("5 if 1=2", 77);
        ranks("5;breath 9;bars if 1=2", 5);
        ShortPrayers x = new ShortPrayers();
        x.person(40);
        x.pray(0, 0, 77, 1);
        String[] barring = {"bars", "bars;bars if 1=2", "bars if 1=2;bars", "bars if 1=1", "bars if 1=2;bars if 1/0=1;bars"};
        for (String text : barring) {
            x.back(0);
            x.image(0);
            x.force(Check.law(x, text));
            due(text, x.rank(0, 1), 1);
            due(text + ": its RANK is told as well", x.rank(0, 0), 77);
            due(text + ": none is heard", x.dawn(), 0);
            due(text + ": it WAITS", x.at(0, 5), 0);
            due(text + ": the BREATH is none of it", x.breath(0, 1), 99);
        }
        String[] not = {"bars if 1=2", "bars if 1/0=1", "rank 1;breath 1", "bars if length=76"};
        for (String text : not) {
            x.back(0);
            x.force(Check.law(x, text));
            due(text, x.rank(0, 1), 0);
            due(text + ": it is heard", x.dawn(), 1);
        }
        ShortPrayers y = new ShortPrayers();
        y.person(40);
        y.force(Check.law(y, "breath 5;breath 6 if age=41;breath 7 if 1/0=1;breath 1/0"));
        due("the last that HOLDS", y.breath(0, 1), 5);
    }

    private static void words() {
        Check.part("term II, words of LAWS");
        String[] names = {"length", "voices", "asker", "age", "thing", "waits", "day", "mood"};
        int[] ofPrayer = {77, 6, 1, 99, 7, 991, 1000, 9};
        int[] ofPerson = {-1, -1, 1, 99, -1, -1, 999, 9};
        for (int i = 0; i < names.length; i++) {
            ShortPrayers x = new ShortPrayers();
            x.person(0);
            x.person(99);
            x.terms(0, 9);
            x.pray(1, 7, 77, 6);
            x.terms(0, 999);
            x.terms(3, 9);
            x.force(Check.law(x, "rank " + names[i] + ";breath 50 if " + names[i] + "=" + Math.max(0, ofPerson[i])
                + ";breath 51 if " + names[i] + "=0-1"));
            due("rank " + names[i], x.rank(0, 0), ofPrayer[i]);
            due("breath by " + names[i], x.breath(1, 1), ofPerson[i] < 0 ? 51 : 50);
        }
        // said on a DAY that is still to come
        ShortPrayers y = new ShortPrayers();
        y.person(0);
        y.terms(0, 500);
        y.pray(0, 0, 1, 1);
        y.terms(0, 0);
        y.force(Check.law(y, "rank waits"));
        due("waits", y.rank(0, 0), -499);
    }

    private static void ordersWords() {
        Check.part("term II, words of ORDERS");
        String[] words = {"day", "prayers", "waiting", "done", "said 0", "said 7", "granted 0", "granted 7"};
        String[] atFirst = {"0", "0", "0", "0", "0-1", "0-1", "0", "0"};
        String[] full = {"20", "16", "16", "3", "9", "18", "0", "0"};
        String[] heard = {"36", "16", "0", "19", "9", "18", "2", "1"};
        for (int i = 0; i < words.length; i++) {
            due(words[i], Check.orders(new ShortPrayers(), "dawn if " + words[i] + "=" + atFirst[i]), 1);
            ShortPrayers x = new ShortPrayers();
            x.word(9);
            x.rule(0, 0, -1, -1);
            x.rule(7, 10, 10, -1);
            x.person(0);
            x.terms(2, 15);
            // 0 is GRANTED at the 1st DAWN and, 15 DAYS behind it, at the 16th; 7 at the 2nd
            x.pray(0, 0, 1, 1);
            x.pray(0, 7, 2, 1);
            Check.orders(x, "pray 0 for 0 of 3 times 14");
            x.terms(0, 17);
            x.image(0);
            due(words[i] + ", none heard", heardBy(x, "bars", words[i] + "=" + full[i]), 4);
            x.back(0);
            due(words[i] + ", all heard", Check.orders(x, "dawn times 19;dawn if " + words[i] + "=" + heard[i]), 20);
        }
    }

    /** How many of 3 DAWNS and of one more, if a TEST is so, are run by a LAW. */
    private static int heardBy(ShortPrayers x, String law, String test) {
        x.force(Check.law(x, law));
        return Check.orders(x, "dawn times 3;dawn if " + test);
    }

    private static void times() {
        Check.part("term II, TIMES");
        due("once without", Check.orders(new ShortPrayers(), "dawn"), 1);
        due("once", Check.orders(new ShortPrayers(), "dawn times 1"), 1);
        due("20", Check.orders(new ShortPrayers(), "dawn times 20"), 20);
        due("its if is asked each time", Check.orders(new ShortPrayers(), "dawn times 20 if day<7"), 7);
        due("it may be so again", Check.orders(new ShortPrayers(), "dawn times 5 if done%2=0;dawn;dawn times 5 if done%2=0"), 3);
        ShortPrayers x = new ShortPrayers();
        x.person(0);
        due("its SUMS each time", Check.orders(x, "pray 0 for done of prayers+1 times 8"), 8);
        for (int i = 0; i < 8; i++) {
            due("THING", x.at(i, 1), i);
            due("LENGTH", x.at(i, 2), i + 1);
            due("VOICES", x.at(i, 3), 1);
        }
        Check.refused(x, "the last time it can't be", x.count(12), Check.orders(x, "pray 0 for done of 1 times 9"), -3);
        due("count(3)", x.count(3), 8);
        due("count(8)", x.count(8), 8);
        due("not run is not one that can't be", Check.orders(x, "pray 0 for done of 1 times 9 if done<8"), 8);
    }

    private static void wordings() {
        Check.part("term III, WORDINGS");
        ShortPrayers x = new ShortPrayers();
        x.word(2);
        x.word(1);
        x.word(1);
        // LENGTHS ahead of RULES
        x.rule(0, 0, 0, -1);
        x.rule(0, 11, 1, -1);
        x.rule(1, 12, -1, -1);
        x.rule(2, 0, -1, -1);
        due("LENGTH", x.say(0, 0), 3);
        due("RULES", x.say(0, 2), 3);
        // alike LENGTHS: the fewer RULES, though they have more WORDS and a higher number
        x.rule(0, 1, 1, 2);
        due("RULES", x.say(0, 2), 1);
        due("WORDS", x.say(0, 1), 3);
        // then the lowest RULE for it
        x.rule(0, 2, 1, 1);
        due("the lower RULE", x.say(0, 3), 1);
        due("the lower RULE", x.say(0, 5), 2);
        // then for its PARTS from the left
        x.rule(3, 1, -1, -1);
        x.rule(3, 2, -1, -1);
        x.rule(4, 2, -1, -1);
        x.rule(4, 1, -1, -1);
        x.rule(5, 14, 13, 14);
        int[] want = {3, 3, 4, 2, 1, 2, -1};
        for (int what = 0; what < want.length; what++) {
            due("say(5, " + what + ")", x.say(5, what), want[what]);
        }
        due("rules", x.count(1), 11);
        x.rule(6, 17, -1, -1);
        x.rule(7, 16, 0, -1);
        due("within one another alone", x.say(6, 0), -1);
        due("within one another alone", x.say(7, 0), -1);
        x.rule(7, 15, 15, 15);
        due("no longer", x.say(6, 0), 9);
        due("RULES, each time", x.say(6, 2), 2 + 3 * 4);
        due("the 9th WORD", x.say(6, 11), 2);
        due("no 10th WORD", x.say(6, 12), -1);
    }

    private static void dawns() {
        Check.part("term III, DAWNS");
        for (int ears = 1; ears <= 4; ears++) {
            ShortPrayers x = new ShortPrayers();
            x.person(0);
            x.terms(1, ears);
            for (int i = 0; i < 5; i++) {
                x.pray(0, i, 7, 1);
            }
            due("as many as EARS", x.dawn(), ears);
            for (int i = 0; i < 5; i++) {
                due("of alike ones the lower numbers", x.at(i, 5), i < ears ? 1 : 0);
            }
            due("no more than there are", x.dawn(), Math.min(5 - ears, ears));
        }
        ShortPrayers x = new ShortPrayers();
        x.person(0);
        x.terms(1, 4);
        x.clash(0, 1, 1);
        x.clash(1, 2, 1);
        x.pray(0, 1, 2, 1);
        x.pray(0, 0, 1, 1);
        x.pray(0, 2, 3, 1);
        // 0 is GRANTED, so 1 is DENIED; 2 clashes with that one alone, which was not GRANTED
        due("in that order", x.dawn(), 2);
        due("at(0, 5)", x.at(0, 5), 2);
        due("at(1, 5)", x.at(1, 5), 1);
        due("at(2, 5)", x.at(2, 5), 1);
        // one that is DENIED has no one DENIED
        due("pray", x.pray(0, 1, 1, 1), 3);
        x.clash(0, 1, 0);
        x.clash(2, 1, 0);
        due("no CLASH any more", x.dawn(), 1);
        due("at(3, 5)", x.at(3, 5), 1);
        // BARRED ones take no EARS
        ShortPrayers y = new ShortPrayers();
        y.person(0);
        y.force(Check.law(y, "bars if length<5"));
        for (int i = 1; i < 8; i++) {
            y.pray(0, i, i, 1);
        }
        due("dawn", y.dawn(), 1);
        due("the first that is not BARRED", y.at(4, 5), 1);
        due("the others WAIT", y.count(4), 6);
    }

    private static void daysAgo() {
        Check.part("term III, HOLDS");
        ShortPrayers x = new ShortPrayers();
        x.person(0);
        x.pray(0, 0, 1, 1);
        x.dawn();
        x.image(0);
        int[] days = {0, 1, 2, 3, 4, 500, 998};
        for (int day : days) {
            x.back(0);
            x.terms(0, day);
            x.pray(0, 0, 1, 1);
            // GRANTED on DAY 1; HOLDS 3: at DAWN of DAYS 1 .. 3 less than that
            due("from DAY " + day, x.dawn(), day + 1 < 4 ? 0 : 1);
            due("DAY", x.at(1, 6), day + 1);
        }
        x.back(0);
        x.terms(2, 1);
        x.terms(0, 0);
        x.pray(0, 0, 1, 1);
        due("0 DAYS ago is less than 1", x.dawn(), 0);
        x.pray(0, 0, 1, 1);
        due("1 DAY ago is not", x.dawn(), 1);
        x.terms(2, 0);
        x.terms(1, 4);
        x.pray(0, 0, 1, 1);
        x.pray(0, 0, 1, 1);
        due("HOLDS 0", x.dawn(), 2);
        // the HOLDS of the DAWN, not of the time when it was GRANTED
        x.terms(2, 30);
        x.pray(0, 0, 1, 1);
        due("HOLDS 30", x.dawn(), 0);
        due("sweep", x.sweep(), 6);
        x.pray(0, 0, 1, 1);
        due("none that is there still", x.dawn(), 1);
    }

    private static void draws() {
        Check.part("term IV, DRAWS");
        int[] seeds = {0, 1, 2, 999999, 1000000};
        for (int seed : seeds) {
            for (int people = 1; people <= 6; people += 5) {
                ShortPrayers x = new ShortPrayers();
                for (int i = 0; i < people; i++) {
                    x.person(0);
                }
                x.force(Check.law(x, "bars"));
                long s = seed;
                int[] said = new int[people];
                for (int day = 0; day < 16; day++) {
                    s = (s * 1103 + 12345) % 1000003;
                    said[(int) (s % people)]++;
                    s = (s * 1103 + 12345) % 1000003;
                    s = (s * 1103 + 12345) % 1000003;
                    due("season", x.season(seed, day + 1), 0);
                    for (int i = 0; i < people; i++) {
                        due("said", x.drawn(i, 0), said[i]);
                        due("all WAIT", x.drawn(i, 3), said[i]);
                    }
                    x.back(0);
                }
                due("season", x.season(seed, 17), 0);
                due("no room for a 17th", x.drawn(0, 0), said[0]);
            }
        }
    }
}
