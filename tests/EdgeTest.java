import java.util.Map;

/** Each sentence of the promises that names a boundary case: what is answered there, and all that changes by it. */
public final class EdgeTest {
    private static final Edge.Scene NEW = Scenes.NEW;
    private static final Edge.Scene RICH = Scenes.RICH;
    private static final Edge.Scene FULL = Scenes.FULL;
    private static final Edge.Scene LATE = Scenes.LATE;

    private EdgeTest() {
    }

    public static void main(String[] args) {
        newObject();
        firstCalls();
        words();
        rules();
        clashes();
        often();
        people();
        breath();
        terms();
        tape();
        rows();
        rowEdges();
        laws();
        orders();
        ordersThatCannotBe();
        force();
        say();
        pray();
        at();
        rankAndOrder();
        dawn();
        undo();
        sweep();
        Check.close();
    }

    private static void due(String call, long got, long want) {
        Check.due(call, got, want);
    }

    private static void newObject() {
        Check.part("promise 1");
        Map<String, String> view = View.of(new ShortPrayers());
        String[] terms = {"-1", "0", "1", "3", "0"};
        for (Map.Entry<String, String> entry : view.entrySet()) {
            String what = entry.getKey();
            String want = entry.getValue().replaceAll("[^,]+", "-1");
            if (what.startsWith("count(1") && what.length() > 8) {
                want = terms[what.charAt(7) - '5'];
            } else if (what.startsWith("count") || what.startsWith("often") || what.startsWith("clash")
                    || what.equals("coughs")) {
                want = "0";
            } else if (what.startsWith("rank")) {
                want = "-1000000";
            } else if (what.equals("order")) {
                want = "0,-1,-1,-1";
            } else if (what.equals("hidden")) {
                want = "0,-1";
            } else if (what.startsWith("back")) {
                want = "-2";
            }
            if (!entry.getValue().equals(want)) {
                Check.wrong(what + " is " + entry.getValue() + ", due is " + want);
            }
        }
        due("nothing can be undone", view.get("undo").length(), 0);
    }

    /** What can't be yet, and what can be though there is nothing. */
    private static void firstCalls() {
        Check.part("promise 1, first calls");
        Edge.refused(NEW, "rule of a WORD that is not there", -2, x -> x.rule(0, 0, -1, -1));
        Edge.refused(NEW, "row", -6, x -> x.row());
        Edge.refused(NEW, "law", -6, x -> x.law(), "fault=0");
        Edge.refused(NEW, "orders", -6, x -> x.orders(), "fault=0");
        Edge.refused(NEW, "force", -2, x -> x.force(0));
        Edge.refused(NEW, "pray", -2, x -> x.pray(0, 0, 1, 1));
        Edge.refused(NEW, "undo", -3, x -> x.undo());
        Edge.refused(NEW, "season", -3, x -> x.season(0, 1));
        Edge.refused(NEW, "back", -2, x -> x.back(1));
        Edge.asked(NEW, "when", -1, x -> x.when(0, 1, 0));
        Edge.asked(NEW, "longest", -1, x -> x.longest(0, 0, 1));
        Edge.asked(NEW, "keep", -1, x -> x.keep(0, 1, 0, 0, 1));
        Edge.asked(NEW, "code", -1, x -> x.code(3, 0));
        Edge.asked(NEW, "sweep", 0, x -> x.sweep());
        Edge.asked(NEW, "forget", 0, x -> x.forget());
        Edge.asked(NEW, "end", 0, x -> x.end(0));
        Edge.taken(NEW, "dawn", 0, x -> x.dawn(), "count(16)=1", "count(8)=1", "undo=1");
        Edge.taken(NEW, "force NONE", -1, x -> x.force(-1));
        Edge.taken(NEW, "image", 0, x -> x.image(1), "back(1)=0,0,0,0,0,0,0,0,-1,0");
        Edge.taken(Scenes.fed(NEW, "dawn times 3"), "orders", 3, x -> x.orders(), "count(9)=0", "count(16)=3", "count(8)=3",
            "undo=111");
        Edge.taken(Scenes.fed(NEW, 0, 0, 1), "row", 0, x -> x.row(), "count(9)=0", "coughs=1");
    }

    private static void words() {
        Check.part("promises 2, 3");
        for (int length : Edge.farAnd(-1, 0, 10)) {
            Edge.refused(RICH, "word(" + length + ")", -1, x -> x.word(length));
        }
        Edge.taken(RICH, "word(1)", 3, x -> x.word(1), "count(0)=4", "lengthOf(3)=1");
        Edge.taken(RICH, "word(9)", 3, x -> x.word(9), "count(0)=4", "lengthOf(3)=9");
        Edge.Scene nine = x -> {
            for (int i = 0; i < 9; i++) {
                x.word(3);
            }
            x.word(0);
        };
        Edge.taken(nine, "the tenth word", 9, x -> x.word(5), "count(0)=10", "lengthOf(9)=5");
        Edge.refused(FULL, "the eleventh word", -5, x -> x.word(1));
        Edge.refused(FULL, "a number that can't be, ahead of no room", -1, x -> x.word(0));
        for (int word : Edge.farAnd(-1, 3, 9, 10)) {
            Edge.asked(RICH, "lengthOf(" + word + ")", -1, x -> x.lengthOf(word));
        }
        Edge.asked(FULL, "lengthOf(9)", 1, x -> x.lengthOf(9));
        Edge.asked(FULL, "lengthOf(10)", -1, x -> x.lengthOf(10));
    }

    private static void rules() {
        Check.part("promises 4, 5");
        for (int thing : Edge.farAnd(-1, 8)) {
            Edge.refused(RICH, "rule, thing " + thing, -1, x -> x.rule(thing, 0, -1, -1));
        }
        for (int part : Edge.farAnd(-2, 18)) {
            Edge.refused(RICH, "rule, a " + part, -1, x -> x.rule(0, part, -1, -1));
            Edge.refused(RICH, "rule, b " + part, -1, x -> x.rule(0, 0, part, -1));
            Edge.refused(RICH, "rule, c " + part, -1, x -> x.rule(0, 0, 0, part));
        }
        Edge.refused(RICH, "rule, a NONE", -1, x -> x.rule(0, -1, -1, -1));
        Edge.refused(RICH, "rule, a NONE, b not", -1, x -> x.rule(0, -1, 0, 0));
        Edge.refused(RICH, "rule, b NONE, c a WORD", -1, x -> x.rule(0, 0, -1, 0));
        Edge.refused(RICH, "rule, b NONE, c a THING", -1, x -> x.rule(0, 0, -1, 17));
        for (int word : new int[] {3, 9}) {
            Edge.refused(RICH, "rule, a no WORD", -2, x -> x.rule(0, word, -1, -1));
            Edge.refused(RICH, "rule, b no WORD", -2, x -> x.rule(0, 0, word, -1));
            Edge.refused(RICH, "rule, c no WORD", -2, x -> x.rule(0, 0, 10, word));
            Edge.refused(RICH, "a number that can't be, ahead of no WORD", -1, x -> x.rule(8, word, -1, -1));
            Edge.refused(RICH, "a number that can't be, behind no WORD", -1, x -> x.rule(0, word, word, 18));
            Edge.refused(RICH, "c without b, behind no WORD", -1, x -> x.rule(0, word, -1, 0));
        }
        Edge.taken(RICH, "a THING without wording", 3, x -> x.rule(7, 17, -1, -1), "count(1)=4", "of(3)=7,17,-1,-1");
        Edge.taken(RICH, "three PARTS", 3, x -> x.rule(7, 0, 10, 11), "count(1)=4", "of(3)=7,0,10,11", "say(7)=10,5,3");
        Edge.taken(RICH, "one PART", 3, x -> x.rule(2, 2, -1, -1), "count(1)=4", "of(3)=2,2,-1,-1", "say(2)=3,1,1");
        Edge.refused(FULL, "the 17th rule", -5, x -> x.rule(0, 9, -1, -1));
        Edge.refused(FULL, "a number that can't be, ahead of no room", -1, x -> x.rule(0, 18, -1, -1));
        Edge.Scene oneWord = x -> {
            x.word(4);
            for (int i = 0; i < 15; i++) {
                x.rule(0, 0, 0, 0);
            }
            x.word(0);
        };
        Edge.taken(oneWord, "the 16th rule", 15, x -> x.rule(0, 0, -1, -1), "count(1)=16", "of(15)=0,0,-1,-1",
            "say(0)=4,1,1");
        Edge.Scene noRoom = Scenes.behind(oneWord, x -> x.rule(0, 0, 0, 0));
        Edge.refused(noRoom, "the 17th rule", -5, x -> x.rule(0, 0, -1, -1));
        Edge.refused(noRoom, "no WORD, ahead of no room", -2, x -> x.rule(0, 1, -1, -1));
        for (int number : Edge.farAnd(-1, 3, 16)) {
            Edge.asked(RICH, "of(" + number + ", 0)", -1, x -> x.of(number, 0));
        }
        for (int what : Edge.farAnd(-1, 4)) {
            Edge.asked(RICH, "of(0, " + what + ")", -1, x -> x.of(0, what));
        }
        Edge.asked(FULL, "of(15, 1)", 2, x -> x.of(15, 1));
        Edge.asked(FULL, "of(16, 1)", -1, x -> x.of(16, 1));
    }

    private static void clashes() {
        Check.part("promise 6");
        for (int thing : Edge.farAnd(-1, 8)) {
            Edge.refused(RICH, "clash(" + thing + ", 0, 1)", -1, x -> x.clash(thing, 0, 1));
            Edge.refused(RICH, "clash(7, " + thing + ", 1)", -1, x -> x.clash(7, thing, 1));
        }
        for (int is : Edge.farAnd(-1, 2)) {
            Edge.refused(RICH, "clash(0, 1, " + is + ")", -1, x -> x.clash(0, 1, is));
            Edge.refused(RICH, "clash(6, 7, " + is + ")", -1, x -> x.clash(6, 7, is));
        }
        for (int thing = 0; thing < 8; thing++) {
            int alike = thing;
            Edge.refused(RICH, "clash, alike ones", -1, x -> x.clash(alike, alike, 1));
            Edge.refused(RICH, "clash, alike ones", -1, x -> x.clash(alike, alike, 0));
        }
        Edge.taken(RICH, "clash(0, 1, 1)", 1, x -> x.clash(0, 1, 1));
        Edge.taken(RICH, "clash(1, 0, 1)", 1, x -> x.clash(1, 0, 1));
        Edge.taken(RICH, "clash(0, 1, 0)", 1, x -> x.clash(0, 1, 0), "clash(0,1)=0");
        Edge.taken(RICH, "clash(1, 0, 0)", 1, x -> x.clash(1, 0, 0), "clash(0,1)=0");
        Edge.taken(RICH, "clash(0, 2, 1)", 0, x -> x.clash(0, 2, 1), "clash(0,2)=1");
        Edge.taken(RICH, "clash(7, 0, 1)", 0, x -> x.clash(7, 0, 1), "clash(0,7)=1");
        Edge.taken(RICH, "clash(0, 7, 0)", 0, x -> x.clash(0, 7, 0));
        // told by one, it is so of the other one, too
        for (int turned = 0; turned < 2; turned++) {
            int one = turned == 0 ? 2 : 5;
            ShortPrayers x = new ShortPrayers();
            due("not yet", x.clash(one, 7 - one, 1), 0);
            due("the other way", x.clash(7 - one, one, 1), 1);
            due("no longer", x.clash(one, 7 - one, 0), 1);
            due("the other way", x.clash(7 - one, one, 0), 0);
            due("this way", x.clash(one, 7 - one, 0), 0);
        }
    }

    private static void often() {
        Check.part("promise 7");
        for (int thing : Edge.farAnd(-1, 8)) {
            Edge.refused(RICH, "often(" + thing + ", 1)", -1, x -> x.often(thing, 1));
        }
        for (int value : Edge.farAnd(-1, 100)) {
            Edge.refused(RICH, "often(0, " + value + ")", -1, x -> x.often(0, value));
        }
        Edge.taken(RICH, "often as it was", 5, x -> x.often(0, 5));
        // by "a", of LENGTH 1; all others behind "b", of 2
        Edge.taken(RICH, "often 99", 0, x -> x.often(7, 99), "often(7)=99", "code(3)=135,3,5,6");
        Edge.taken(RICH, "often 0", 1, x -> x.often(2, 0), "often(2)=0", "code(3)=11,1,2,-1");
        Edge.taken(FULL, "a sixth THING again", 6, x -> x.often(5, 0), "often(5)=0", "code(3)=47,5,4,4");
        Edge.taken(FULL, "a seventh THING", 0, x -> x.often(7, 1), "often(7)=1", "code(3)=-1,-1,-1,-1");
    }

    private static void people() {
        Check.part("promise 8");
        for (int age : Edge.farAnd(-1, 100)) {
            Edge.refused(RICH, "person(" + age + ")", -1, x -> x.person(age));
        }
        Edge.taken(RICH, "person(0)", 2, x -> x.person(0), "count(2)=3", "breath(2)=0,99", "hidden=657,0");
        Edge.taken(RICH, "person(99)", 2, x -> x.person(99), "count(2)=3", "breath(2)=99,60", "hidden=657,0");
        Edge.Scene five = x -> {
            for (int i = 0; i < 5; i++) {
                x.person(9);
            }
            x.person(-1);
        };
        Edge.taken(five, "the sixth", 5, x -> x.person(8), "count(2)=6", "breath(5)=8,99", "hidden=1440,0");
        Edge.refused(FULL, "the seventh", -5, x -> x.person(8));
        Edge.refused(FULL, "a number that can't be, ahead of no room", -1, x -> x.person(100));
    }

    private static void breath() {
        Check.part("promise 9");
        for (int person : Edge.farAnd(-1, 2, 6)) {
            Edge.asked(RICH, "breath(" + person + ", 0)", -1, x -> x.breath(person, 0));
            Edge.asked(RICH, "breath(" + person + ", 1)", -1, x -> x.breath(person, 1));
        }
        for (int what : Edge.farAnd(-1, 2)) {
            Edge.asked(RICH, "breath(0, " + what + ")", -1, x -> x.breath(0, what));
        }
        Edge.asked(FULL, "breath(5, 0)", 95, x -> x.breath(5, 0));
        Edge.asked(FULL, "breath(6, 0)", -1, x -> x.breath(6, 0));
        String[] sums = {"0", "0-1", "1", "98", "99", "100", "1000*1000*1000", "0-1000*1000*1000", "1000*1000*1000+1",
            "1/0", "1%0"};
        int[] told = {0, 0, 1, 98, 99, 99, 99, 0, 99, 99, 99};
        for (int i = 0; i < sums.length; i++) {
            ShortPrayers x = new ShortPrayers();
            x.person(30);
            x.force(Check.law(x, "breath " + sums[i]));
            due("breath " + sums[i], x.breath(0, 1), told[i]);
            due("age", x.breath(0, 0), 30);
            due("prayers as long as that", x.pray(0, 0, Math.max(1, told[i]), 1), told[i] == 0 ? -3 : 0);
            due("prayers longer than that", x.pray(0, 0, told[i] + 1, 1), told[i] == 99 ? -1 : -3);
        }
    }

    private static void terms() {
        Check.part("promise 10");
        int[] low = {0, 1, 0, 0};
        int[] high = {999, 4, 30, 9};
        for (int term = 0; term < 4; term++) {
            int what = term;
            for (int value : Edge.farAnd(low[what] - 1, high[what] + 1)) {
                Edge.refused(RICH, "terms(" + what + ", " + value + ")", -1, x -> x.terms(what, value));
            }
        }
        for (int what : Edge.farAnd(-1, 4)) {
            Edge.refused(RICH, "terms(" + what + ", 1)", -1, x -> x.terms(what, 1));
        }
        // nothing that was ahead of it can be undone, even if it changes nothing
        Edge.taken(RICH, "the DAY as it was", 2, x -> x.terms(0, 2), "count(8)=0", "undo=");
        Edge.taken(RICH, "DAY 0", 2, x -> x.terms(0, 0), "count(8)=0", "undo=", "count(16)=0", "rank(0)=21", "rank(3)=31",
            "rank(4)=39", "hidden=442,0");
        Edge.taken(RICH, "DAY 999", 2, x -> x.terms(0, 999), "count(8)=0", "undo=", "count(16)=999", "rank(0)=1020",
            "rank(3)=1030", "rank(4)=1038", "hidden=480,0");
        Edge.taken(RICH, "EARS 1", 1, x -> x.terms(1, 1), "count(8)=0", "undo=");
        Edge.taken(RICH, "EARS 4", 1, x -> x.terms(1, 4), "count(8)=0", "undo=", "count(17)=4", "hidden=420,0");
        Edge.taken(RICH, "HOLDS 0", 3, x -> x.terms(2, 0), "count(8)=0", "undo=", "count(18)=0");
        Edge.taken(RICH, "HOLDS 30", 3, x -> x.terms(2, 30), "count(8)=0", "undo=", "count(18)=30");
        Edge.taken(RICH, "MOOD 0", 0, x -> x.terms(3, 0), "count(8)=0", "undo=");
        Edge.taken(RICH, "MOOD 9", 0, x -> x.terms(3, 9), "count(8)=0", "undo=", "count(19)=9");
        Edge.taken(FULL, "MOOD 9 by a LAW", 0, x -> x.terms(3, 9), "count(8)=0", "undo=", "count(19)=9", "order=0,-1,-1,-1",
            "hidden=1440,0");
    }

    private static void tape() {
        Check.part("promises 11, 12");
        Edge.asked(Scenes.NO_TAPE, "feed", 20, x -> x.feed(0, 0, 0, 0, 0), "count(9)=20");
        Edge.asked(RICH, "feed", 27, x -> x.feed(-1, -1, -1, -1, -1), "count(9)=27");
        Edge.asked(FULL, "feed to a full one", -1, x -> x.feed(1, 2, 3, 4, 5));
        Edge.asked(Scenes.behind(FULL, x -> x.end(380)), "feed up to 400", 400, x -> x.feed(1, 2, 3, 4, 5), "count(9)=400");
        Edge.asked(Scenes.behind(FULL, x -> x.end(381)), "feed above 400", -1, x -> x.feed(1, 2, 3, 4, 5));
        Edge.asked(Scenes.behind(FULL, x -> x.end(399)), "feed above 400", -1, x -> x.feed(1, 2, 3, 4, 5));
        for (int n : Edge.farAnd(-1, 8, 20, 400)) {
            Edge.asked(RICH, "end(" + n + ")", -1, x -> x.end(n));
        }
        Edge.asked(RICH, "end(7)", 7, x -> x.end(7));
        Edge.asked(RICH, "end(6)", 6, x -> x.end(6), "count(9)=6");
        Edge.asked(RICH, "end(0)", 0, x -> x.end(0), "count(9)=0");
        Edge.asked(Scenes.NO_TAPE, "end(0)", 0, x -> x.end(0));
        Edge.asked(Scenes.NO_TAPE, "end(1)", -1, x -> x.end(1));
        Edge.asked(FULL, "end(400)", 400, x -> x.end(400));
        Edge.asked(FULL, "end(399)", 399, x -> x.end(399), "count(9)=399");
        Edge.asked(FULL, "end(401)", -1, x -> x.end(401));
        // the first bytes alone: what comes next stands behind them
        ShortPrayers x = new ShortPrayers();
        x.person(30);
        x.feed(0x00010200, 0x05060007, 0x08ffffff, -1, -1);
        x.end(5);
        x.feed(0x09000401, 0, 0, 0, 0);
        x.end(9);
        due("row", x.row(), 3);
        int[][] want = {{1, 2}, {5, 9}, {4, 1}};
        for (int i = 0; i < 3; i++) {
            due("at(" + i + ", 1)", x.at(i, 1), want[i][0]);
            due("at(" + i + ", 2)", x.at(i, 2), want[i][1]);
        }
        // four bytes of each number, the highest first
        Check.law(x, "rank");
        x.feed(0x72616e6b, 0x20313b62, 0x61727320, 0x69662031, 0x3c31303b);
        x.end(19);
        due("law", x.law(), 0);
        due("fault", x.fault(), -1);
    }

    private static void rows() {
        Check.part("promises 13, 14");
        Edge.refused(Scenes.NO_TAPE, "an empty one", -6, x -> x.row());
        // though none comes, nothing that was ahead of it can be undone
        Edge.taken(Scenes.fed(RICH, 0), "one byte", 0, x -> x.row(), "coughs=1", "count(9)=0", "count(8)=0", "undo=");
        Edge.taken(Scenes.fed(RICH, 0, 0), "two bytes", 0, x -> x.row(), "coughs=1", "count(9)=0", "count(8)=0", "undo=");
        for (int more = 0; more < 3; more++) {
            int[] bytes = new int[3 + more];
            bytes[2] = 1;
            Edge.Scene scene = Scenes.fed(RICH, bytes);
            String coughs = "coughs=" + (more == 0 ? 0 : 1);
            Edge.taken(scene, "three bytes and " + more, 1, x -> x.row(), coughs, "count(9)=0", "count(8)=0", "undo=",
                "count(3)=6", "count(4)=4", "at(5)=0,0,1,1,2,0,-1", "rank(5)=2", "order=4,5,0,3", "hidden=480,0");
        }
        Edge.taken(FULL, "400 bytes without room", 0, x -> x.row(), "coughs=134", "count(9)=0", "count(8)=0", "undo=");
        Edge.Scene fifteen = Scenes.behind(FULL, x -> x.undo());
        Edge.taken(fifteen, "400 bytes, room for one", 1, x -> x.row(), "coughs=133", "count(9)=0", "count(8)=0", "undo=",
            "count(3)=16", "count(4)=16", "at(15)=0,1,2,1,0,0,-1", "rank(15)=2", "order=16,0,1,15");
        ShortPrayers x = new ShortPrayers();
        due("ahead of any", x.coughs(), 0);
        x.row();
        due("behind one that was REFUSED", x.coughs(), 0);
        Check.feed(x, 0, 0);
        x.row();
        due("behind one that was not", x.coughs(), 1);
        x.row();
        due("behind one that was REFUSED", x.coughs(), 1);
        x.person(5);
        Check.feed(x, 0, 0, 9);
        due("row", x.row(), 1);
        due("none", x.coughs(), 0);
    }

    private static void rowEdges() {
        Check.part("promise 13, what can be");
        int[][] rows = {{0, 0, 1}, {0, 7, 99}, {1, 0, 60}, {0, 8, 1}, {0, 255, 1}, {0, 0, 0}, {0, 0, 100}, {0, 0, 255},
            {2, 0, 1}, {6, 0, 1}, {255, 0, 1}, {1, 0, 61}, {1, 0, 99}};
        for (int i = 0; i < rows.length; i++) {
            ShortPrayers x = new ShortPrayers();
            RICH.set(x);
            x.end(0);
            Check.feed(x, rows[i]);
            String row = "row " + rows[i][0] + " " + rows[i][1] + " " + rows[i][2];
            boolean can = i < 3;
            Check.taken(x, row, x.row(), can ? 1 : 0);
            due(row + " coughs", x.coughs(), can ? 0 : 1);
            due(row + " count(3)", x.count(3), can ? 6 : 5);
            int[] want = {rows[i][0], rows[i][1], rows[i][2], 1, 2, 0, -1};
            for (int what = 0; what < 7; what++) {
                due(row + " at(5, " + what + ")", x.at(5, what), can ? want[what] : -1);
            }
            due(row + " refused", x.count(10) + x.count(11) + x.count(13), 0);
        }
        // a COUGH is none: what stands behind it comes
        ShortPrayers y = new ShortPrayers();
        y.person(1);
        Check.feed(y, 0, 8, 1, 0, 3, 4, 9, 0, 1, 0, 5, 6);
        due("row", y.row(), 2);
        due("coughs", y.coughs(), 2);
        due("at(1, 2)", y.at(1, 2), 6);
    }

    private static void laws() {
        Check.part("promises 15, 17");
        Edge.taken(Scenes.fed(RICH, "rank 1"), "law", 2, x -> x.law(), "count(7)=3", "count(9)=0", "fault=-1");
        Edge.refused(Scenes.NO_TAPE, "no bytes", -6, x -> x.law(), "fault=0");
        Edge.refused(Scenes.fed(RICH, " "), "a blank", -6, x -> x.law(), "fault=1", "count(9)=0");
        Edge.refused(Scenes.fed(RICH, blanks(400)), "400 blanks", -6, x -> x.law(), "fault=400", "count(9)=0");
        Edge.refused(Scenes.fed(RICH, "rank"), "no end", -6, x -> x.law(), "fault=4", "count(9)=0");
        Edge.refused(Scenes.fed(RICH, "rank 1 x"), "no sign of it", -6, x -> x.law(), "fault=7", "count(9)=0");
        Edge.refused(Scenes.fed(RICH, "rank 1   "  + (char) 9), "no blank", -6, x -> x.law(), "fault=9", "count(9)=0");
        String whole = "rank" + blanks(395) + "7";
        Edge.taken(Scenes.fed(RICH, whole), "400 bytes", 2, x -> x.law(), "count(7)=3", "count(9)=0", "fault=-1");
        Edge.Scene five = x -> {
            for (int i = 0; i < 5; i++) {
                Check.law(x, "bars");
            }
            Check.law(x, "bar");
            Check.feed(x, "breath 9");
        };
        Edge.taken(five, "the sixth", 5, x -> x.law(), "count(7)=6", "count(9)=0", "fault=-1");
        // ahead of reading it: FAULT stays as it was
        Edge.refused(FULL, "the seventh", -5, x -> x.law(), "count(9)=0");
        Edge.refused(Scenes.fed(FULL, "rank 1"), "the seventh", -5, x -> x.law(), "count(9)=0");
        Edge.refused(Scenes.fed(FULL, ""), "the seventh, no bytes", -5, x -> x.law());
        Edge.Scene faulty = Scenes.behind(Scenes.fed(FULL, "dawn ?"), x -> x.orders());
        Edge.refused(Scenes.fed(faulty, "rank 1"), "FAULT of the orders stays", -5, x -> x.law(), "count(9)=0");
        ShortPrayers x = new ShortPrayers();
        faulty.set(x);
        due("FAULT", x.fault(), 5);
        Check.law(x, "rank ????");
        due("FAULT of the latest that read", x.fault(), 5);
        Check.orders(x, "dawn");
        due("NONE without", x.fault(), -1);
        Check.orders(x, "pray 9 for 9 of 9");
        due("NONE, though it could not be", x.fault(), -1);
    }

    private static String blanks(int n) {
        return " ".repeat(n);
    }

    private static void orders() {
        Check.part("promises 16, 17, 18");
        Edge.refused(Scenes.NO_TAPE, "no bytes", -6, x -> x.orders(), "fault=0", "stopped=-1");
        Edge.refused(Scenes.fed(RICH, "  "), "blanks", -6, x -> x.orders(), "fault=2", "count(9)=0", "stopped=-1");
        Edge.refused(Scenes.fed(RICH, blanks(400)), "400 blanks", -6, x -> x.orders(), "fault=400", "count(9)=0", "stopped=-1");
        Edge.refused(Scenes.fed(RICH, "dawn; dawn,"), "a sign that can't be", -6, x -> x.orders(), "fault=10", "count(9)=0",
            "stopped=-1");
        Edge.refused(FULL, "bytes that can't be", -6, x -> x.orders(), "fault=0", "count(9)=0");
        Edge.taken(Scenes.fed(RICH, "dawn if 1 = 2"), "none is run", 0, x -> x.orders(), "fault=-1", "count(9)=0", "stopped=-1");
        Edge.taken(Scenes.fed(RICH, "dawn if 1 / 0 = 1"), "none is run", 0, x -> x.orders(), "fault=-1", "count(9)=0", "stopped=-1");
        Edge.taken(Scenes.fed(RICH, "pray 1/0 for 9 of 0 times 20 if 1 > 1"), "none is run", 0, x -> x.orders(), "fault=-1",
            "count(9)=0", "stopped=-1");
        Edge.taken(Scenes.fed(RICH, "pray 1 for 3 of 60 if day = 2"), "one is run", 1, x -> x.orders(), "fault=-1", "count(9)=0",
            "stopped=-1", "count(3)=6", "count(4)=4", "count(8)=7", "undo=0011000", "at(5)=1,3,60,1,2,0,-1", "rank(5)=61",
            "order=4,0,3,4");
        ShortPrayers x = new ShortPrayers();
        RICH.set(x);
        x.end(0);
        Check.taken(x, "as many as there is room for", Check.orders(x, "pray 0 for 0 of 1 times 11"), 11);
        due("count(3)", x.count(3), 16);
        due("16 are kept", x.count(8), 16);
        Check.taken(x, "20 times", Check.orders(x, "dawn times 20"), 20);
        due("count(16)", x.count(16), 22);
        due("16 are kept", x.count(8), 16);
        for (int i = 0; i < 16; i++) {
            due("undo", x.undo(), 1);
        }
        due("count(16)", x.count(16), 6);
        due("undo", x.undo(), -3);
        due("all twelve CLAUSES, 20 times", Check.orders(x, "dawn times 20;".repeat(11) + "dawn times 20"), 240);
        due("count(16)", x.count(16), 246);
    }

    private static void cannotBe(Edge.Scene scene, String text, int by, int stopped, String... changes) {
        String[] all = new String[changes.length + 2];
        all[0] = "count(9)=0";
        all[1] = "stopped=" + stopped;
        System.arraycopy(changes, 0, all, 2, changes.length);
        Edge.refused(Scenes.fed(scene, text), text, by, x -> x.orders(), all);
    }

    private static void ordersThatCannotBe() {
        Check.part("promises 16, 18, one that can't be");
        String read = "fault=-1";
        String[] sums = {"2 for 0 of 1", "6 for 0 of 1", "0-1 for 0 of 1", "0 for 8 of 1", "0 for 0-1 of 1", "0 for 0 of 0",
            "0 for 0 of 100", "1 for 0 of 61", "1/0 for 0 of 1", "0 for 1%0 of 1", "0 for 0 of 1000*1000*1000+1",
            "0-1000*1000*1000 for 0 of 1", "0 for 1000*1000*1000 of 1"};
        for (String sum : sums) {
            cannotBe(RICH, "pray " + sum, -3, 0, read);
            cannotBe(RICH, "dawn;pray 0 for 0 of 1;dawn;pray " + sum, -3, 3, read);
            // that it can't be is told ahead of no room
            cannotBe(FULL, "pray " + sum.replace("2 for", "7 for").replace("1 for 0 of 61", "6 for 0 of 61"), -3, 0);
        }
        cannotBe(RICH, "pray 0 for 0 of 1 times 12", -5, 0, read);
        cannotBe(RICH, "dawn times 20;dawn;pray 0 for 0 of 1 times 11;pray 0 for 0 of 1", -5, 3, read);
        cannotBe(RICH, "pray 0 for 0 of 1 times 12;pray 9 for 9 of 9", -5, 0, read);
        cannotBe(RICH, "pray 9 for 9 of 9;pray 0 for 0 of 1 times 12", -3, 0, read);
        cannotBe(FULL, "pray 0 for 0 of 1", -5, 0);
        cannotBe(FULL, "dawn times 20;dawn;pray 5 for 7 of 99", -5, 2);
        cannotBe(LATE, "dawn", -3, 0, read);
        cannotBe(LATE, "pray 0 for 0 of 1;pray 1 for 1 of 1;dawn", -3, 2, read);
        Edge.Scene nearlyLate = Scenes.behind(LATE, x -> x.terms(0, 980));
        cannotBe(nearlyLate, "dawn times 20", -3, 0, read);
        cannotBe(nearlyLate, "dawn times 19;pray 0 for 0 of 1;dawn times 1", -3, 2, read);
        ShortPrayers x = new ShortPrayers();
        due("ahead of any", x.stopped(), -1);
        Check.orders(x, "dawn;dawn;pray 0 for 0 of 1");
        due("none of it was done", x.count(16), 0);
        due("stopped", x.stopped(), 2);
        Check.law(x, "rank");
        x.dawn();
        due("stopped stays", x.stopped(), 2);
        Check.orders(x, "dawn.");
        due("REFUSED by -6", x.stopped(), -1);
        Check.orders(x, "dawn;dawn;pray 0 for 0 of 1");
        Check.orders(x, "dawn");
        due("that was done", x.stopped(), -1);
    }

    private static void force() {
        Check.part("promise 19");
        for (int law : Edge.farAnd(-2, 2, 6)) {
            Edge.refused(RICH, "force(" + law + ")", -2, x -> x.force(law));
        }
        Edge.refused(FULL, "force(6)", -2, x -> x.force(6));
        Edge.taken(FULL, "force(5)", 5, x -> x.force(5));
        Edge.taken(RICH, "force(0)", 0, x -> x.force(0));
        Edge.taken(RICH, "force(NONE)", 0, x -> x.force(-1), "count(15)=-1", "rank(0)=20", "rank(3)=30", "rank(4)=40",
            "breath(1)=70,99", "hidden=442,0");
        Edge.taken(RICH, "force(1)", 0, x -> x.force(1), "count(15)=1", "rank(0)=20", "rank(3)=30", "rank(4)=40",
            "breath(1)=70,99", "order=2,0,4,-1", "hidden=442,0");
        Edge.taken(Scenes.behind(RICH, x -> x.force(-1)), "NONE was", -1, x -> x.force(-1));
    }

    private static void say() {
        Check.part("promise 20");
        for (int thing : Edge.farAnd(-1, 2, 7, 8)) {
            for (int what = 0; what <= 3; what++) {
                int asked = what;
                Edge.asked(RICH, "say(" + thing + ", " + what + ")", -1, x -> x.say(thing, asked));
            }
        }
        for (int what : Edge.farAnd(-1, 5, 6)) {
            Edge.asked(RICH, "say(0, " + what + ")", -1, x -> x.say(0, what));
            Edge.asked(RICH, "say(1, " + what + ")", -1, x -> x.say(1, what));
        }
        Edge.asked(RICH, "the last WORD", 1, x -> x.say(0, 4));
        Edge.asked(RICH, "the last WORD", 2, x -> x.say(1, 4));
        // WORDS alone, 3 of LENGTH 9; and a THING that is said by itself alone has no wording
        ShortPrayers x = new ShortPrayers();
        x.word(9);
        x.rule(0, 10, -1, -1);
        x.rule(1, 0, 10, -1);
        x.rule(2, 13, -1, -1);
        x.rule(3, 12, -1, -1);
        for (int thing = 0; thing < 4; thing++) {
            due("by themselves alone: none", x.say(thing, 0), -1);
            due("by themselves alone: none", x.say(thing, 3), -1);
        }
        x.rule(0, 0, 0, 0);
        int[] want = {27, 3, 1, 0, 0, 0, -1};
        for (int what = 0; what < want.length; what++) {
            due("say(0, " + what + ")", x.say(0, what), want[what]);
        }
        due("and what rests on it", x.say(1, 0), 36);
        due("not what does not", x.say(3, 0), -1);
    }

    private static void pray() {
        Check.part("promise 21");
        for (int thing : Edge.farAnd(-1, 8)) {
            Edge.refused(RICH, "thing " + thing, -1, x -> x.pray(0, thing, 1, 1));
        }
        for (int length : Edge.farAnd(-1, 0, 100)) {
            Edge.refused(RICH, "length " + length, -1, x -> x.pray(0, 0, length, 1));
        }
        for (int voices : Edge.farAnd(-1, 0, 7)) {
            Edge.refused(RICH, "voices " + voices, -1, x -> x.pray(0, 0, 1, voices));
        }
        for (int asker : Edge.farAnd(-1, 2, 6)) {
            Edge.refused(RICH, "asker " + asker, -2, x -> x.pray(asker, 0, 1, 1));
            Edge.refused(RICH, "a number that can't be, ahead of no asker", -1, x -> x.pray(asker, 8, 1, 1));
            Edge.refused(RICH, "a number that can't be, ahead of no asker", -1, x -> x.pray(asker, 0, 0, 1));
            Edge.refused(RICH, "a number that can't be, ahead of no asker", -1, x -> x.pray(asker, 0, 1, 7));
        }
        Edge.refused(RICH, "longer than the BREATH", -3, x -> x.pray(1, 0, 61, 1));
        Edge.refused(RICH, "longer than the BREATH", -3, x -> x.pray(1, 0, 99, 1));
        Edge.refused(RICH, "a number that can't be, ahead of the BREATH", -1, x -> x.pray(1, 0, 100, 1));
        Edge.refused(RICH, "a number that can't be, ahead of the BREATH", -1, x -> x.pray(1, 0, 61, 7));
        Edge.taken(RICH, "as long as the BREATH", 5, x -> x.pray(1, 3, 60, 6), "count(3)=6", "count(4)=4", "count(8)=7",
            "undo=0011000", "at(5)=1,3,60,6,2,0,-1", "rank(5)=61", "order=4,0,3,4");
        Edge.taken(RICH, "LENGTH 1", 5, x -> x.pray(0, 7, 1, 1), "count(3)=6", "count(4)=4", "count(8)=7",
            "undo=0011000", "at(5)=0,7,1,1,2,0,-1", "rank(5)=2", "order=4,5,0,3", "hidden=480,0");
        Edge.taken(RICH, "LENGTH 99", 5, x -> x.pray(0, 0, 99, 1), "count(3)=6", "count(4)=4", "count(8)=7",
            "undo=0011000", "at(5)=0,0,99,1,2,0,-1", "rank(5)=100", "order=4,0,3,4");
        Edge.taken(Scenes.behind(FULL, x -> x.undo()), "the 16th", 15, x -> x.pray(5, 7, 99, 6), "count(3)=16", "count(4)=16",
            "count(8)=16", "undo=0000000000000000", "at(15)=5,7,99,6,0,0,-1", "rank(15)=99", "order=16,0,1,2");
        Edge.refused(FULL, "the 17th", -5, x -> x.pray(5, 7, 99, 6));
        Edge.refused(FULL, "a number that can't be, ahead of no room", -1, x -> x.pray(5, 8, 99, 6));
        Edge.refused(FULL, "no asker, ahead of no room", -2, x -> x.pray(6, 7, 99, 6));
        Edge.Scene short_ = Scenes.behind(FULL, x -> {
            x.back(0);
            x.terms(0, 1);
            return 0;
        });
        Edge.taken(short_, "it is said on the DAY", 0, x -> x.pray(0, 0, 9, 1), "count(3)=1", "count(4)=1", "count(8)=1",
            "undo=0", "at(0)=0,0,9,1,1,0,-1", "rank(0)=9", "order=1,0,-1,-1", "hidden=336,30");
        ShortPrayers x = new ShortPrayers();
        x.person(9);
        Check.orders(x, "pray 0 for 0 of 1 times 16");
        x.force(Check.law(x, "breath 9"));
        Check.refused(x, "longer than the BREATH, ahead of no room", x.count(12), x.pray(0, 0, 10, 1), -3);
        Check.refused(x, "no room", x.count(13), x.pray(0, 0, 9, 1), -5);
        Check.refused(x, "no asker, ahead of the BREATH", x.count(11), x.pray(1, 0, 10, 1), -2);
        due("count(3)", x.count(3), 16);
    }

    private static void at() {
        Check.part("promise 22");
        for (int prayer : Edge.farAnd(-1, 5, 16)) {
            for (int what = 0; what < 7; what++) {
                int asked = what;
                Edge.asked(RICH, "at(" + prayer + ", " + what + ")", -1, x -> x.at(prayer, asked));
            }
        }
        for (int what : Edge.farAnd(-1, 7)) {
            Edge.asked(RICH, "at(0, " + what + ")", -1, x -> x.at(0, what));
        }
        Edge.asked(RICH, "it WAITS", 0, x -> x.at(0, 5));
        Edge.asked(RICH, "the DAY of one that WAITS", -1, x -> x.at(0, 6));
        Edge.asked(RICH, "GRANTED", 1, x -> x.at(1, 5));
        Edge.asked(RICH, "the DAY of one that is GRANTED", 1, x -> x.at(1, 6));
        Edge.asked(RICH, "DENIED", 2, x -> x.at(2, 5));
        Edge.asked(RICH, "the DAY of one that is DENIED", 2, x -> x.at(2, 6));
        Edge.asked(FULL, "the 16th", 3, x -> x.at(15, 0));
        Edge.asked(FULL, "no 17th", -1, x -> x.at(16, 0));
    }

    private static void rankAndOrder() {
        Check.part("promises 23, 24");
        for (int what = 0; what < 2; what++) {
            int asked = what;
            for (int prayer : Edge.farAnd(-1, 5, 16)) {
                Edge.asked(RICH, "no such PRAYER", -1000000, x -> x.rank(prayer, asked));
            }
            Edge.asked(RICH, "one that is GRANTED", -1000000, x -> x.rank(1, asked));
            Edge.asked(RICH, "one that is DENIED", -1000000, x -> x.rank(2, asked));
        }
        for (int what : Edge.farAnd(-1, 2)) {
            Edge.asked(RICH, "rank(0, " + what + ")", -1000000, x -> x.rank(0, what));
        }
        Edge.asked(RICH, "not BARRED", 0, x -> x.rank(3, 1));
        Edge.asked(Scenes.behind(RICH, x -> x.force(1)), "BARRED", 1, x -> x.rank(3, 1));
        Edge.asked(Scenes.behind(RICH, x -> x.force(1)), "not BARRED", 0, x -> x.rank(4, 1));
        Edge.asked(LATE, "on DAY 999 as if 1,000 came", 1020, x -> x.rank(0, 0));
        Edge.asked(Scenes.behind(LATE, x -> x.terms(0, 998)), "on DAY 998", 1019, x -> x.rank(0, 0));
        for (int i : Edge.farAnd(-2, 3, 4, 15, 16)) {
            Edge.asked(RICH, "order(" + i + ")", -1, x -> x.order(i));
        }
        Edge.asked(RICH, "how many", 3, x -> x.order(-1));
        Edge.asked(RICH, "the last one", 4, x -> x.order(2));
        Edge.asked(FULL, "the 16th", 15, x -> x.order(15));
        Edge.asked(FULL, "no 17th", -1, x -> x.order(16));
        Edge.asked(FULL, "by EARS enough", 16, x -> x.order(-1));
        Edge.asked(LATE, "on DAY 999", 3, x -> x.order(-1));
        Edge.asked(LATE, "on DAY 999", 0, x -> x.order(0));
        Edge.Scene barred = Scenes.fed(FULL, "bars");
        ShortPrayers x = new ShortPrayers();
        barred.set(x);
        x.force(4);
        x.terms(3, 9);
        due("all are BARRED", x.order(-1), 0);
        due("all are BARRED", x.order(0), -1);
        due("none is heard", x.dawn(), 0);
        due("all of them WAIT", x.count(4), 16);
        due("it is BARRED, and has a RANK", x.rank(15, 0), 16);
        due("it is BARRED", x.rank(15, 1), 1);
    }

    private static void dawn() {
        Check.part("promise 25");
        Edge.refused(LATE, "DAY 999", -3, x -> x.dawn());
        Edge.Scene nearlyLate = Scenes.behind(LATE, x -> x.terms(0, 998));
        Edge.taken(Scenes.behind(nearlyLate, x -> x.force(2)), "DAY 998", 1, x -> x.dawn(), "count(4)=2", "count(8)=1", "count(16)=999",
            "at(0)=0,5,20,1,0,1,999", "rank(0)=-1000000", "rank(3)=1030", "rank(4)=1038", "order=2,3,4,-1", "undo=1",
            "hidden=480,0");
        Edge.taken(RICH, "one ear", 1, x -> x.dawn(), "count(4)=2", "count(8)=7", "count(16)=3", "at(0)=0,5,20,1,0,1,3",
            "rank(0)=-1000000", "rank(3)=34", "rank(4)=42", "order=2,3,4,-1", "undo=1011000", "hidden=420,0");
        Edge.Scene ears = Scenes.behind(Scenes.behind(RICH, x -> x.terms(1, 4)), x -> x.force(2));
        Edge.taken(ears, "more ears than PRAYERS", 3, x -> x.dawn(), "count(4)=0", "count(8)=1", "count(16)=3",
            "at(0)=0,5,20,1,0,1,3", "at(3)=1,7,30,3,0,1,3", "at(4)=1,2,40,1,2,1,3", "rank(0)=-1000000",
            "rank(3)=-1000000", "rank(4)=-1000000", "order=0,-1,-1,-1", "undo=1");
        Edge.taken(FULL, "17th deed", 1, x -> x.dawn(), "count(4)=15", "count(16)=1", "at(0)=0,0,1,1,0,1,1",
            "rank(0)=-1000000", "order=15,1,2,3", "undo=1000000000000000", "hidden=1206,5");
        // less than HOLDS DAYS ago: at HOLDS it is no longer so
        for (int holds = 0; holds <= 30; holds += 15) {
            for (int ago = Math.max(0, holds - 1); ago <= holds; ago++) {
                ShortPrayers x = new ShortPrayers();
                x.person(30);
                x.terms(2, holds);
                x.terms(1, 2);
                x.pray(0, 3, 1, 1);
                for (int day = 0; day < ago; day++) {
                    due("dawn", x.dawn(), day == 0 ? 1 : 0);
                }
                x.pray(0, 3, 2, 1);
                int granted = ago == 0 ? 1 : 0;
                due("granted " + ago + " days ago", x.dawn(), granted + (ago < holds ? 0 : 1));
                due("the second one", x.at(1, 5), ago < holds ? 2 : 1);
                due("its DAY", x.at(1, 6), Math.max(1, ago + 1));
            }
        }
    }

    private static void undo() {
        Check.part("promise 26");
        Edge.refused(NEW, "there is none", -3, x -> x.undo());
        Edge.refused(LATE, "ahead of terms()", -3, x -> x.undo());
        Edge.refused(Scenes.behind(RICH, x -> x.sweep()), "ahead of sweep()", -3, x -> x.undo());
        Edge.refused(Scenes.behind(Scenes.fed(RICH, 9), x -> x.row()), "ahead of row()", -3, x -> x.undo());
        Edge.refused(Scenes.behind(RICH, x -> x.back(0)), "ahead of back()", -3, x -> x.undo());
        Edge.taken(Scenes.behind(RICH, x -> x.terms(1, 0)), "ahead of a terms() that was REFUSED", 0, x -> x.undo(), "count(3)=4",
            "count(4)=2", "count(8)=5", "undo=11000", "at(4)=-1,-1,-1,-1,-1,-1,-1", "rank(4)=-1000000", "order=2,0,3,-1");
        Edge.taken(Scenes.behind(Scenes.behind(RICH, x -> x.end(0)), x -> x.row()), "ahead of a row() that was REFUSED", 0, x -> x.undo(),
            "count(3)=4", "count(4)=2", "count(8)=5", "undo=11000", "at(4)=-1,-1,-1,-1,-1,-1,-1", "rank(4)=-1000000",
            "order=2,0,3,-1");
        Edge.taken(Scenes.behind(Scenes.behind(RICH, x -> x.undo()), x -> x.force(2)), "a DAWN", 1, x -> x.undo(), "count(4)=3", "count(8)=4",
            "count(16)=1", "at(2)=0,1,12,1,0,0,-1", "rank(0)=22", "rank(2)=14", "rank(3)=32", "order=3,2,0,3",
            "undo=1000", "hidden=456,0");
        Edge.taken(FULL, "the 16th of 16", 0, x -> x.undo(), "count(3)=15", "count(4)=15", "count(8)=15",
            "undo=000000000000000", "at(15)=-1,-1,-1,-1,-1,-1,-1", "rank(15)=-1000000", "order=15,0,1,2");
        ShortPrayers x = new ShortPrayers();
        FULL.set(x);
        due("dawn", x.dawn(), 1);
        due("dawn", x.dawn(), 1);
        due("16 are kept", x.count(8), 16);
        for (int i = 0; i < 16; i++) {
            due("undo", x.undo(), i < 2 ? 1 : 0);
        }
        due("the oldest ones can't be undone", x.undo(), -3);
        due("status()", x.status(), -3);
        due("count(3)", x.count(3), 2);
        due("count(4)", x.count(4), 2);
        due("count(16)", x.count(16), 0);
        due("what is undone can't be undone", x.count(8), 0);
        due("pray", x.pray(0, 0, 1, 1), 2);
        due("undo", x.undo(), 0);
    }

    private static void sweep() {
        Check.part("promise 27");
        // none was heard; still nothing that was ahead of it can be undone
        Edge.asked(FULL, "none", 0, x -> x.sweep(), "count(8)=0", "undo=");
        Edge.asked(RICH, "two", 2, x -> x.sweep(), "count(3)=3", "count(8)=0", "undo=", "at(1)=1,7,30,3,0,0,-1",
            "at(2)=1,2,40,1,2,0,-1", "at(3)=-1,-1,-1,-1,-1,-1,-1", "at(4)=-1,-1,-1,-1,-1,-1,-1", "rank(1)=33", "rank(2)=41",
            "rank(3)=-1000000", "rank(4)=-1000000", "order=3,0,1,2");
        Edge.Scene allHeard = Scenes.behind(Scenes.behind(RICH, x -> x.terms(1, 4)), x -> x.dawn());
        Edge.asked(allHeard, "all", 5, x -> x.sweep(), "count(3)=0", "count(8)=0", "undo=",
            "at(0)=-1,-1,-1,-1,-1,-1,-1", "at(1)=-1,-1,-1,-1,-1,-1,-1", "at(2)=-1,-1,-1,-1,-1,-1,-1",
            "at(3)=-1,-1,-1,-1,-1,-1,-1", "at(4)=-1,-1,-1,-1,-1,-1,-1");
        ShortPrayers x = new ShortPrayers();
        RICH.set(x);
        x.sweep();
        due("again", x.sweep(), 0);
        // one that is no longer there denies none
        due("thing 1 clashes with 0, which was GRANTED", x.pray(0, 1, 1, 1), 3);
        due("dawn", x.dawn(), 1);
        due("at(3, 5)", x.at(3, 5), 1);
    }
}
