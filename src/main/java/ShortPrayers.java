/** Prayers that are answered by their length; ../shared/DOC.md tells what each call promises. */
public final class ShortPrayers {
    /** There is none. */
    public static final int NONE = -1;
    /** What is not there, where it could be below 0. */
    public static final int NOTHING = -1000000;

    // what a call is REFUSED by
    private static final int BAD_NUMBER = -1;
    private static final int NO_SUCH = -2;
    private static final int CANT_BE = -3;
    private static final int NO_ROOM = -5;
    private static final int BAD_TEXT = -6;

    private static final int THINGS = 8;
    private static final int MOST_PEOPLE = 6;
    private static final int MOST_PRAYERS = 16;
    private static final int MOST_BYTES = 400;
    private static final int MOST_DEEDS = 16;
    private static final int LAST_DAY = 999;
    private static final int LONGEST_PRAYER = 99;
    private static final int MOST_KEEPERS = 8;
    private static final int HIDDEN_LENGTHS = 30;

    // a PART of a RULE: a WORD below this, a THING from it on
    private static final int THING_PART = 10;

    // the TERMS
    private static final int DAY = 0;
    private static final int EARS = 1;
    private static final int HOLDS = 2;
    private static final int MOOD = 3;

    // the columns of a PRAYER, as at() numbers them
    private static final int ASKER = 0;
    private static final int THING = 1;
    private static final int LENGTH = 2;
    private static final int VOICES = 3;
    private static final int SAID = 4;
    private static final int STATE = 5;
    private static final int HEARD_ON = 6;

    // the STATE of a PRAYER
    private static final int WAITS = 0;
    private static final int GRANTED = 1;
    private static final int DENIED = 2;

    // the kinds of CLAUSES in both languages
    private static final int RANK = 0;
    private static final int BREATH = 1;
    private static final int BARS = 2;
    private static final int PRAY = 3;
    private static final int DAWN = 4;

    // the columns of a CLAUSE: behind the PLACES of its three SUMS stand those of its TEST and of its end
    private static final int KIND = 0;
    private static final int TIMES = 1;
    private static final int PLACES = 2;
    private static final int TEST = 3;
    private static final int CLAUSE_WIDTH = 7;

    // the steps into which a TEXT is put: what is done, times STEP, and a number told with it
    private static final int STEP = 2048;
    private static final int NUMBER = 0;
    private static final int FACT = 1;
    private static final int NOT = 2;
    private static final int AND = 3;
    private static final int OR = 4;
    private static final int LESS = 5;
    private static final int MORE = 6;
    private static final int SAME = 7;
    private static final int PLUS = 8;
    private static final int MINUS = 9;
    private static final int TIMES_OF = 10;
    private static final int OVER = 11;
    private static final int LEFT_OF = 12;

    private static final int FARTHEST = 1000000000;
    // what no SUM that is whole can be
    private static final int BROKEN = -2000000000;

    // the facts that ORDERS ask for; said and granted stand once for each THING
    private static final int FACT_DAY = 0;
    private static final int FACT_PRAYERS = 1;
    private static final int FACT_WAITING = 2;
    private static final int FACT_DONE = 3;
    private static final int FACT_SAID = 8;
    private static final int FACT_GRANTED = 16;

    private final Book now = new Book();
    private final Book[] images = {new Book(), new Book()};
    private final boolean[] imageKept = new boolean[2];
    private final Rows tape = new Rows(MOST_BYTES, 1);
    private final Program draft = new Program();
    private final Reader reader = new Reader(tape, draft);
    private final Judge judge = new Judge();
    private final Herald herald = new Herald(judge);
    private final Vigil paper = new Vigil();
    private final Vigil vigilBefore = new Vigil();
    private final Rows deeds = new Rows(MOST_DEEDS, 1);
    private final Rows deedsBefore = new Rows(MOST_DEEDS, 1);
    private final Wordings wordings = new Wordings();
    private final Codes codes = new Codes();
    private final Season latest = new Season();
    private final int[] orderFacts = new int[FACT_GRANTED + THINGS];
    private final int[] refusals = new int[7];
    private int refusedBy;
    private int latestCoughs;
    private int stoppedAt = NONE;

    public ShortPrayers() {
    }

    public int word(int length) {
        if (!within(length, 1, 9)) {
            return refuse(BAD_NUMBER);
        }
        int number = now.words.open();
        if (number == NONE) {
            return refuse(NO_ROOM);
        }
        now.words.set(number, 0, length);
        return fine(number);
    }

    public int lengthOf(int word) {
        return now.words.get(word, 0);
    }

    public int rule(int thing, int a, int b, int c) {
        if (!isThing(thing) || !within(a, 0, THING_PART + THINGS - 1)
                || !within(b, NONE, THING_PART + THINGS - 1) || !within(c, NONE, THING_PART + THINGS - 1)
                || (b == NONE && c != NONE)) {
            return refuse(BAD_NUMBER);
        }
        if (lacksWord(a) || lacksWord(b) || lacksWord(c)) {
            return refuse(NO_SUCH);
        }
        int number = now.rules.open();
        if (number == NONE) {
            return refuse(NO_ROOM);
        }
        now.rules.set(number, 0, thing);
        now.rules.set(number, 1, a);
        now.rules.set(number, 2, b);
        now.rules.set(number, 3, c);
        return fine(number);
    }

    public int of(int rule, int what) {
        return now.rules.get(rule, what);
    }

    public int clash(int one, int other, int is) {
        if (!isThing(one) || !isThing(other) || one == other || !within(is, 0, 1)) {
            return refuse(BAD_NUMBER);
        }
        return fine(now.setClash(one, other, is));
    }

    public int often(int thing, int value) {
        if (!isThing(thing) || !within(value, 0, 99)) {
            return refuse(BAD_NUMBER);
        }
        int was = now.often[thing];
        now.often[thing] = value;
        return fine(was);
    }

    public int person(int age) {
        if (!within(age, 0, 99)) {
            return refuse(BAD_NUMBER);
        }
        int number = now.people.open();
        if (number == NONE) {
            return refuse(NO_ROOM);
        }
        now.people.set(number, 0, age);
        return fine(number);
    }

    public int breath(int person, int what) {
        if (what == 1 && now.people.has(person)) {
            return judge.breathOf(now, person, now.vigil.day);
        }
        return now.people.get(person, what);
    }

    public int terms(int what, int value) {
        if (!within(what, DAY, MOOD) || !within(value, lowestTerm(what), highestTerm(what))) {
            return refuse(BAD_NUMBER);
        }
        int was = now.term(what);
        now.setTerm(what, value);
        deeds.cut(0);
        return fine(was);
    }

    public int feed(int a, int b, int c, int d, int e) {
        if (tape.size > MOST_BYTES - 20) {
            return NONE;
        }
        feedNumber(a);
        feedNumber(b);
        feedNumber(c);
        feedNumber(d);
        feedNumber(e);
        return tape.size;
    }

    public int end(int n) {
        if (!within(n, 0, tape.size)) {
            return NONE;
        }
        tape.cut(n);
        return n;
    }

    public int row() {
        if (tape.size == 0) {
            return refuse(BAD_TEXT);
        }
        int came = 0;
        latestCoughs = 0;
        for (int i = 0; i < tape.size; i += 3) {
            // behind the TAPE's end stands NONE, which no LENGTH and no THING can be
            if (tryPrayer(now.vigil, tape.get(i, 0), tape.get(i + 1, 0), tape.get(i + 2, 0), 1) == 0) {
                came++;
            } else {
                latestCoughs++;
            }
        }
        tape.cut(0);
        deeds.cut(0);
        return fine(came);
    }

    public int coughs() {
        return latestCoughs;
    }

    public int law() {
        if (now.lawCount >= now.laws.length) {
            tape.cut(0);
            return refuse(NO_ROOM);
        }
        boolean whole = reader.read(false);
        tape.cut(0);
        return whole ? fine(now.addLaw(draft)) : refuse(BAD_TEXT);
    }

    public int orders() {
        boolean whole = reader.read(true);
        tape.cut(0);
        stoppedAt = NONE;
        if (!whole) {
            return refuse(BAD_TEXT);
        }
        vigilBefore.takeFrom(now.vigil);
        deedsBefore.takeFrom(deeds);
        wordings.find(now);
        int done = 0;
        for (int clause = 0; clause < draft.clauses.size; clause++) {
            for (int i = 0; i < draft.clauses.get(clause, TIMES); i++) {
                lookAround(done);
                if (judge.reckoner.value(draft, clause, TEST, orderFacts) != 1) {
                    continue;
                }
                int by = runOnce(clause);
                if (by != 0) {
                    now.vigil.takeFrom(vigilBefore);
                    deeds.takeFrom(deedsBefore);
                    stoppedAt = clause;
                    return refuse(by);
                }
                done++;
            }
        }
        return fine(done);
    }

    public int fault() {
        return reader.fault;
    }

    public int stopped() {
        return stoppedAt;
    }

    public int force(int law) {
        if (!within(law, NONE, now.lawCount - 1)) {
            return refuse(NO_SUCH);
        }
        int was = now.forced;
        now.forced = law;
        return fine(was);
    }

    public int say(int thing, int what) {
        if (!isThing(thing) || what < 0) {
            return NONE;
        }
        wordings.find(now);
        if (what == 0) {
            return wordings.lengthFor(thing);
        }
        if (what == 1) {
            return wordings.wordsFor(thing);
        }
        if (what == 2) {
            return wordings.rulesFor(thing);
        }
        return wordings.wordAt(now, thing, what - 3);
    }

    public int pray(int asker, int thing, int length, int voices) {
        int by = tryPrayer(now.vigil, asker, thing, length, voices);
        if (by != 0) {
            return refuse(by);
        }
        noteDeed(0);
        return fine(now.vigil.prayers.size - 1);
    }

    public int at(int prayer, int what) {
        return now.vigil.prayers.get(prayer, what);
    }

    public int rank(int prayer, int what) {
        if (!now.vigil.waits(prayer) || !within(what, 0, 1)) {
            return NOTHING;
        }
        judge.look(now, now.vigil, prayer, now.vigil.day + 1);
        return what == 0 ? judge.rankTold(now) : judge.tells(now, BARS, 0, 0, 1);
    }

    public int order(int i) {
        if (i < NONE) {
            return NONE;
        }
        paper.takeFrom(now.vigil);
        herald.foreseeAll(now, paper, 1);
        for (int place = 0; place < MOST_PRAYERS; place++) {
            int next = herald.lowest(paper, 1);
            if (next == NONE || place == i) {
                return i == NONE ? place : next;
            }
            paper.prayers.set(next, STATE, DENIED);
        }
        return i == NONE ? MOST_PRAYERS : NONE;
    }

    public int dawn() {
        int granted = tryDawn();
        return granted < 0 ? refuse(granted) : fine(granted);
    }

    public int undo() {
        if (deeds.size == 0) {
            return refuse(CANT_BE);
        }
        int deed = deeds.get(deeds.size - 1, 0);
        deeds.cut(deeds.size - 1);
        if (deed == 0) {
            now.vigil.prayers.cut(now.vigil.prayers.size - 1);
            return fine(0);
        }
        now.vigil.takeBackDawn(deed >> 1);
        return fine(1);
    }

    public int sweep() {
        deeds.cut(0);
        return now.vigil.dropHeard();
    }

    public int code(int letters, int what) {
        if (!within(what, 0, THINGS) || !codes.find(now, letters)) {
            return NONE;
        }
        return what == 0 ? codes.total() : codes.lengthFor(what - 1);
    }

    public int bundle(int things, int length) {
        if (!within(things, 1, 255) || !within(length, 1, 99)) {
            return refuse(BAD_NUMBER);
        }
        int number = now.bundles.open();
        if (number == NONE) {
            return refuse(NO_ROOM);
        }
        now.bundles.set(number, 0, things);
        now.bundles.set(number, 1, length);
        return fine(number);
    }

    public int cover(int things, int what) {
        if (!within(things, 1, 255) || !within(what, 0, 1)) {
            return NONE;
        }
        int best = NONE;
        int bestCost = 0;
        for (int chosen = 1; chosen < 1 << now.bundles.size; chosen++) {
            int cost = now.coverCost(chosen, things);
            // of alike ones the one that was found first is the lowest as bits
            if (cost != NONE && (best == NONE || cost < bestCost)) {
                best = chosen;
                bestCost = cost;
            }
        }
        if (best == NONE) {
            return NONE;
        }
        return what == 0 ? bestCost / Book.COST_OF_LENGTH : best;
    }

    public int when(int prayer, int n, int what) {
        if (!now.vigil.waits(prayer) || !within(n, 1, 50) || !within(what, 0, 1)) {
            return NONE;
        }
        paper.takeFrom(now.vigil);
        for (int i = 0; i < n && paper.waits(prayer) && paper.day < LAST_DAY; i++) {
            herald.foreseeAll(now, paper, 1);
            herald.hear(now, paper, 1);
        }
        if (paper.waits(prayer)) {
            return NONE;
        }
        int isGranted = paper.prayers.get(prayer, STATE) == GRANTED ? 1 : 0;
        return what == 0 ? paper.prayers.get(prayer, HEARD_ON) : isGranted;
    }

    public int longest(int asker, int thing, int voices) {
        if (!now.people.has(asker) || !isThing(thing) || !within(voices, 1, 6) || now.vigil.day >= LAST_DAY) {
            return NONE;
        }
        herald.foreseeAll(now, now.vigil, 1);
        for (int length = judge.breathOf(now, asker, now.vigil.day); length > 0; length--) {
            paper.takeFrom(now.vigil);
            int added = paper.utter(asker, thing, length, voices);
            herald.foresee(now, paper, added, 1, paper.day + 1);
            herald.hear(now, paper, 1);
            if (paper.prayers.get(added, STATE) == GRANTED) {
                return length;
            }
        }
        return NONE;
    }

    public int keep(int prayer, int n, int asker, int thing, int length) {
        if (!now.vigil.waits(prayer) || !within(n, 1, Herald.FARTHEST_DAWN) || !now.people.has(asker)
                || !isThing(thing) || !within(length, 1, judge.breathOf(now, asker, now.vigil.day))) {
            return NONE;
        }
        int dawns = Math.min(n, LAST_DAY - now.vigil.day);
        paper.takeFrom(now.vigil);
        for (int i = 0; i < MOST_KEEPERS; i++) {
            paper.utter(asker, thing, length, 1);
        }
        herald.foreseeAll(now, paper, dawns);
        for (int more = 0; more <= MOST_KEEPERS; more++) {
            paper.takeFrom(now.vigil);
            for (int i = 0; i < more; i++) {
                paper.utter(asker, thing, length, 1);
            }
            if (!isGrantedWithin(prayer, dawns)) {
                return more;
            }
        }
        return NONE;
    }

    public int answer(int k, int thing, int is) {
        if (!within(k, 1, 9) || !isThing(thing) || !within(is, 0, 1)) {
            return refuse(BAD_NUMBER);
        }
        int number = now.answers.open();
        if (number == NONE) {
            return refuse(NO_ROOM);
        }
        now.answers.set(number, 0, k);
        now.answers.set(number, 1, thing);
        now.answers.set(number, 2, is);
        return fine(now.answers.size);
    }

    public int forget() {
        int were = now.answers.size;
        now.answers.cut(0);
        return were;
    }

    public int hidden(int i) {
        if (i < NONE) {
            return NONE;
        }
        int dawns = Math.min(now.farthestAnswer(), LAST_DAY - now.vigil.day);
        herald.foreseeAll(now, now.vigil, dawns);
        int found = 0;
        for (int told = 0; told < now.people.size * THINGS * HIDDEN_LENGTHS; told++) {
            if (explainsAnswers(told, dawns)) {
                if (found == i) {
                    return told;
                }
                found++;
            }
        }
        return i == NONE ? found : NONE;
    }

    public int season(int seed, int n) {
        if (!within(seed, 0, 1000000) || !within(n, 1, 60)) {
            return refuse(BAD_NUMBER);
        }
        if (now.people.size == 0) {
            return refuse(CANT_BE);
        }
        latest.begin(seed, now.people.size);
        paper.takeFrom(now.vigil);
        int granted = 0;
        for (int i = 0; i < n; i++) {
            sayWhatIsDrawn();
            if (paper.day >= LAST_DAY) {
                break;
            }
            herald.foreseeAll(now, paper, 1);
            granted += herald.hear(now, paper, 1);
        }
        latest.noteStanding(paper);
        return fine(granted);
    }

    public int drawn(int person, int what) {
        return latest.tally(person, what);
    }

    public int image(int k) {
        if (!within(k, 0, images.length - 1)) {
            return refuse(BAD_NUMBER);
        }
        images[k].takeFrom(now);
        imageKept[k] = true;
        return fine(0);
    }

    public int back(int k) {
        if (!within(k, 0, images.length - 1)) {
            return refuse(BAD_NUMBER);
        }
        if (!imageKept[k]) {
            return refuse(NO_SUCH);
        }
        now.takeFrom(images[k]);
        deeds.cut(0);
        return fine(0);
    }

    public int count(int what) {
        switch (what) {
            case 0:
                return now.words.size;
            case 1:
                return now.rules.size;
            case 2:
                return now.people.size;
            case 3:
                return now.vigil.prayers.size;
            case 4:
                return now.vigil.waiting();
            case 5:
                return now.bundles.size;
            case 6:
                return now.answers.size;
            case 7:
                return now.lawCount;
            case 8:
                return deeds.size;
            case 9:
                return tape.size;
            case 10:
                return refusals[-BAD_NUMBER];
            case 11:
                return refusals[-NO_SUCH];
            case 12:
                return refusals[-CANT_BE];
            case 13:
                return refusals[-NO_ROOM];
            case 14:
                return refusals[-BAD_TEXT];
            case 15:
                return now.forced;
            default:
                return within(what, 16, 19) ? now.term(what - 16) : NONE;
        }
    }

    public int status() {
        return refusedBy;
    }

    private int refuse(int by) {
        refusedBy = by;
        if (within(-by, 1, refusals.length - 1)) {
            refusals[-by]++;
        }
        return by;
    }

    private int fine(int told) {
        refusedBy = 0;
        return told;
    }

    private static boolean within(int number, int low, int high) {
        return number >= low && number <= high;
    }

    private static boolean isThing(int thing) {
        return within(thing, 0, THINGS - 1);
    }

    private boolean lacksWord(int part) {
        return within(part, 0, THING_PART - 1) && !now.words.has(part);
    }

    private static int lowestTerm(int what) {
        return what == EARS ? 1 : 0;
    }

    private static int highestTerm(int what) {
        if (what == DAY) {
            return LAST_DAY;
        }
        if (what == EARS) {
            return 4;
        }
        return what == HOLDS ? 30 : 9;
    }

    private void feedNumber(int number) {
        for (int shift = 24; shift >= 0; shift -= 8) {
            tape.set(tape.open(), 0, (number >> shift) & 255);
        }
    }

    /** Says a PRAYER, if it can be: 0, else what it is REFUSED by. */
    private int tryPrayer(Vigil vigil, int asker, int thing, int length, int voices) {
        if (!isThing(thing) || !within(length, 1, LONGEST_PRAYER) || !within(voices, 1, 6)) {
            return BAD_NUMBER;
        }
        if (!now.people.has(asker)) {
            return NO_SUCH;
        }
        if (length > judge.breathOf(now, asker, vigil.day)) {
            return CANT_BE;
        }
        if (vigil.prayers.size >= MOST_PRAYERS) {
            return NO_ROOM;
        }
        vigil.utter(asker, thing, length, voices);
        return 0;
    }

    /** A DAWN, if it can be: how many are GRANTED, else what it is REFUSED by. */
    private int tryDawn() {
        if (now.vigil.day >= LAST_DAY) {
            return CANT_BE;
        }
        herald.foreseeAll(now, now.vigil, 1);
        int granted = herald.hear(now, now.vigil, 1);
        noteDeed(herald.heard * 2 + 1);
        return granted;
    }

    /** A deed is 0 for a PRAYER; for a DAWN it is odd, with the bits of those that were heard above. */
    private void noteDeed(int deed) {
        if (deeds.size >= MOST_DEEDS) {
            deeds.dropFirst();
        }
        deeds.set(deeds.open(), 0, deed);
    }

    private void lookAround(int done) {
        orderFacts[FACT_DAY] = now.vigil.day;
        orderFacts[FACT_PRAYERS] = now.vigil.prayers.size;
        orderFacts[FACT_WAITING] = now.vigil.waiting();
        orderFacts[FACT_DONE] = done;
        for (int thing = 0; thing < THINGS; thing++) {
            orderFacts[FACT_SAID + thing] = wordings.lengthFor(thing);
            orderFacts[FACT_GRANTED + thing] = now.vigil.grantedFor(thing);
        }
    }

    /** Runs a CLAUSE of the ORDERS once: 0, else what the ORDERS are REFUSED by. */
    private int runOnce(int clause) {
        if (draft.clauses.get(clause, KIND) == DAWN) {
            return Math.min(tryDawn(), 0);
        }
        int asker = judge.reckoner.value(draft, clause, 0, orderFacts);
        int thing = judge.reckoner.value(draft, clause, 1, orderFacts);
        int length = judge.reckoner.value(draft, clause, 2, orderFacts);
        if (asker == BROKEN || thing == BROKEN || length == BROKEN) {
            return CANT_BE;
        }
        int by = tryPrayer(now.vigil, asker, thing, length, 1);
        if (by == 0) {
            noteDeed(0);
        }
        return by == 0 || by == NO_ROOM ? by : CANT_BE;
    }

    private boolean isGrantedWithin(int prayer, int dawns) {
        for (int i = 1; i <= dawns && paper.waits(prayer); i++) {
            herald.hear(now, paper, i);
        }
        return paper.prayers.get(prayer, STATE) == GRANTED;
    }

    /** What all that waits already would rank is foreseen by then: only the hidden one is still to be looked at. */
    private boolean explainsAnswers(int told, int dawns) {
        paper.takeFrom(now.vigil);
        int perAsker = THINGS * HIDDEN_LENGTHS;
        int added = paper.utter(told / perAsker, told / HIDDEN_LENGTHS % THINGS, told % HIDDEN_LENGTHS + 1, 1);
        for (int i = 1; i <= 9; i++) {
            int things = 0;
            if (i <= dawns) {
                if (paper.waits(added)) {
                    herald.foresee(now, paper, added, i, paper.day + 1);
                }
                herald.hear(now, paper, i);
                things = herald.grantedThings;
            }
            if (!now.answersAre(i, things)) {
                return false;
            }
        }
        return true;
    }

    private void sayWhatIsDrawn() {
        int person = latest.draw(now.people.size);
        int thing = latest.draw(THINGS);
        int length = latest.draw(40) + 1;
        if (tryPrayer(paper, person, thing, length, 1) == 0) {
            latest.noteSaid(person);
        }
    }

    /** Rows of numbers, all of one width; what is asked of a row that is not there is NONE. */
    private static final class Rows {
        private final int[] cells;
        private final int width;
        private int size;

        Rows(int most, int width) {
            this.width = Math.max(width, 1);
            cells = new int[Math.max(most, 0) * this.width];
        }

        boolean has(int row) {
            return row >= 0 && row < size;
        }

        int get(int row, int column) {
            return row >= 0 && row < size && column >= 0 && column < width ? cells[row * width + column] : NONE;
        }

        void set(int row, int column, int value) {
            if (row >= 0 && row < size && column >= 0 && column < width) {
                cells[row * width + column] = value;
            }
        }

        /** One row more, whose cells are still to be set: its number; NONE without room. */
        int open() {
            if ((size + 1) * width > cells.length) {
                return NONE;
            }
            size++;
            return size - 1;
        }

        void cut(int rows) {
            if (rows >= 0 && rows < size) {
                size = rows;
            }
        }

        void dropFirst() {
            if (size > 0) {
                size--;
                System.arraycopy(cells, width, cells, 0, size * width);
            }
        }

        void copyRow(int from, int to) {
            if (has(from) && has(to)) {
                System.arraycopy(cells, from * width, cells, to * width, width);
            }
        }

        /** The other one has rows of this width, and no more than there is room for here. */
        void takeFrom(Rows other) {
            if (other.width == width && other.size * width <= cells.length) {
                System.arraycopy(other.cells, 0, cells, 0, other.size * width);
                size = other.size;
            }
        }
    }

    /** PRAYERS and the DAY: what goes on from DAWN to DAWN, in truth or on paper. */
    private static final class Vigil {
        // on paper room is aside: there may be more than MOST_PRAYERS
        static final int ROWS = MOST_PRAYERS + MOST_KEEPERS;

        private final Rows prayers = new Rows(ROWS, 7);
        private int day;

        boolean waits(int prayer) {
            return prayers.get(prayer, STATE) == WAITS;
        }

        int waiting() {
            int waiting = 0;
            for (int i = 0; i < prayers.size; i++) {
                if (waits(i)) {
                    waiting++;
                }
            }
            return waiting;
        }

        int grantedFor(int thing) {
            int granted = 0;
            for (int i = 0; i < prayers.size; i++) {
                if (prayers.get(i, STATE) == GRANTED && prayers.get(i, THING) == thing) {
                    granted++;
                }
            }
            return granted;
        }

        int utter(int asker, int thing, int length, int voices) {
            int prayer = prayers.open();
            prayers.set(prayer, ASKER, asker);
            prayers.set(prayer, THING, thing);
            prayers.set(prayer, LENGTH, length);
            prayers.set(prayer, VOICES, voices);
            prayers.set(prayer, SAID, day);
            prayers.set(prayer, STATE, WAITS);
            prayers.set(prayer, HEARD_ON, NONE);
            return prayer;
        }

        void takeBackDawn(int heard) {
            for (int i = 0; i < prayers.size; i++) {
                if ((heard >> i & 1) == 1) {
                    prayers.set(i, STATE, WAITS);
                    prayers.set(i, HEARD_ON, NONE);
                }
            }
            day--;
        }

        int dropHeard() {
            int left = 0;
            for (int i = 0; i < prayers.size; i++) {
                if (waits(i)) {
                    prayers.copyRow(i, left);
                    left++;
                }
            }
            int gone = prayers.size - left;
            prayers.cut(left);
            return gone;
        }

        void takeFrom(Vigil other) {
            prayers.takeFrom(other.prayers);
            day = other.day;
        }
    }

    /** All that IMAGES keep. */
    private static final class Book {
        // a LENGTH more outweighs all BUNDLES
        static final int COST_OF_LENGTH = 16;

        private final Rows words = new Rows(10, 1);
        private final Rows rules = new Rows(16, 4);
        private final Rows people = new Rows(MOST_PEOPLE, 1);
        private final Rows bundles = new Rows(10, 2);
        private final Rows answers = new Rows(6, 3);
        private final Vigil vigil = new Vigil();
        private final int[] clashes = new int[THINGS];
        private final int[] often = new int[THINGS];
        // EARS, HOLDS, MOOD; the DAY is the vigil's
        private final int[] otherTerms = {0, 1, 3, 0};
        private final Program[] laws = {new Program(), new Program(), new Program(),
            new Program(), new Program(), new Program()};
        private int lawCount;
        private int forced = NONE;

        int term(int what) {
            if (what == DAY) {
                return vigil.day;
            }
            return what > 0 && what < otherTerms.length ? otherTerms[what] : NONE;
        }

        void setTerm(int what, int value) {
            if (what == DAY) {
                vigil.day = value;
            } else if (what > 0 && what < otherTerms.length) {
                otherTerms[what] = value;
            }
        }

        int setClash(int one, int other, int is) {
            if (!isThing(one) || !isThing(other)) {
                return NONE;
            }
            int was = clashes[one] >> other & 1;
            if (was != is) {
                clashes[one] ^= 1 << other;
                clashes[other] ^= 1 << one;
            }
            return was;
        }

        /** The THINGS, as bits, that a THING can't be granted soon behind. */
        int keptOffBy(int thing) {
            return isThing(thing) ? clashes[thing] | 1 << thing : 0;
        }

        int addLaw(Program law) {
            if (lawCount >= laws.length) {
                return NONE;
            }
            laws[lawCount].takeFrom(law);
            lawCount++;
            return lawCount - 1;
        }

        /** The LAW in FORCE; null without. */
        Program ruling() {
            return forced >= 0 && forced < lawCount && forced < laws.length ? laws[forced] : null;
        }

        /** What BUNDLES cost, the fewer the less; NONE, if they don't have all the THINGS. */
        int coverCost(int chosen, int things) {
            int had = 0;
            int cost = 0;
            for (int i = 0; i < bundles.size; i++) {
                if ((chosen >> i & 1) == 1) {
                    had |= bundles.get(i, 0);
                    cost += bundles.get(i, 1) * COST_OF_LENGTH + 1;
                }
            }
            return (had & things) == things ? cost : NONE;
        }

        int farthestAnswer() {
            int farthest = 0;
            for (int i = 0; i < answers.size; i++) {
                farthest = Math.max(farthest, answers.get(i, 0));
            }
            return farthest;
        }

        /** Whether the ANSWERS for the k-th DAWN are so, if these THINGS, as bits, are GRANTED at it. */
        boolean answersAre(int k, int things) {
            for (int i = 0; i < answers.size; i++) {
                if (answers.get(i, 0) == k && (things >> answers.get(i, 1) & 1) != answers.get(i, 2)) {
                    return false;
                }
            }
            return true;
        }

        void takeFrom(Book other) {
            words.takeFrom(other.words);
            rules.takeFrom(other.rules);
            people.takeFrom(other.people);
            bundles.takeFrom(other.bundles);
            answers.takeFrom(other.answers);
            vigil.takeFrom(other.vigil);
            System.arraycopy(other.clashes, 0, clashes, 0, THINGS);
            System.arraycopy(other.often, 0, often, 0, THINGS);
            System.arraycopy(other.otherTerms, 0, otherTerms, 0, otherTerms.length);
            lawCount = Math.min(other.lawCount, laws.length);
            for (int i = 0; i < lawCount; i++) {
                laws[i].takeFrom(other.laws[i]);
            }
            forced = other.forced;
        }
    }

    /** A TEXT that was read, as steps for a stack. */
    private static final class Program {
        private final int[] steps = new int[MOST_BYTES];
        private int size;
        private final Rows clauses = new Rows(12, CLAUSE_WIDTH);

        void add(int step) {
            if (size < steps.length) {
                steps[size] = step;
                size++;
            }
        }

        /** The next step is the first of a part of the latest CLAUSE. */
        void mark(int part) {
            clauses.set(clauses.size - 1, PLACES + part, size);
        }

        /** The step at a place skips all that came behind it. */
        void skipFrom(int place) {
            if (place >= 0 && place < size) {
                steps[place] += size - place - 1;
            }
        }

        void clear() {
            size = 0;
            clauses.cut(0);
        }

        void takeFrom(Program other) {
            size = Math.min(other.size, steps.length);
            System.arraycopy(other.steps, 0, steps, 0, size);
            clauses.takeFrom(other.clauses);
        }
    }

    /** Reads the TAPE in one of both languages, TOKEN by TOKEN, into a Program. */
    private static final class Reader {
        private static final int MOST_PARTS = 50;
        private static final int MOST_BRACKETS = 8;
        private static final int OTHER_BYTE = 0;
        private static final int DIGIT = 1;
        private static final int LETTER = 2;

        private final Rows tape;
        private final Program into;
        private boolean ordering;
        private int start;
        private int stop;
        private int parts;
        private int fault = NONE;

        Reader(Rows tape, Program into) {
            this.tape = tape;
            this.into = into;
        }

        boolean read(boolean asOrders) {
            ordering = asOrders;
            stop = 0;
            parts = 0;
            fault = NONE;
            into.clear();
            advance();
            for (int i = 0; i < MOST_BYTES; i++) {
                if (!clause()) {
                    return false;
                }
                if (start >= tape.size) {
                    return true;
                }
                if (!is(";")) {
                    return fail();
                }
                advance();
            }
            return fail();
        }

        private boolean fail() {
            fault = start;
            return false;
        }

        private void advance() {
            start = stop;
            while (start < tape.size && tape.get(start, 0) == ' ') {
                start++;
            }
            int kind = kindOf(tape.get(start, 0));
            stop = Math.min(start + 1, tape.size);
            while (kind != OTHER_BYTE && stop < tape.size && kindOf(tape.get(stop, 0)) == kind) {
                stop++;
            }
        }

        private static int kindOf(int sign) {
            if (sign >= 'a' && sign <= 'z') {
                return LETTER;
            }
            return sign >= '0' && sign <= '9' ? DIGIT : OTHER_BYTE;
        }

        private boolean is(String text) {
            if (stop - start != text.length()) {
                return false;
            }
            for (int i = 0; i < text.length(); i++) {
                if (tape.get(start + i, 0) != text.charAt(i)) {
                    return false;
                }
            }
            return true;
        }

        /** Goes on behind a TOKEN that must stand here. */
        private boolean pass(String text) {
            if (!is(text)) {
                return fail();
            }
            advance();
            return true;
        }

        /** The NUMBER that stands here; NONE, if none does, or one beyond what it may be. */
        private int number(int low, int high) {
            if (kindOf(tape.get(start, 0)) != DIGIT) {
                return NONE;
            }
            int value = 0;
            for (int i = start; i < stop && value <= high; i++) {
                value = value * 10 + tape.get(i, 0) - '0';
            }
            return within(value, low, high) ? value : NONE;
        }

        private boolean clause() {
            int kind = clauseKind();
            int number = kind == NONE ? NONE : into.clauses.open();
            if (number == NONE) {
                return fail();
            }
            into.clauses.set(number, KIND, kind);
            into.clauses.set(number, TIMES, 1);
            advance();
            if (!sums(kind)) {
                return false;
            }
            if (ordering && is("times")) {
                advance();
                int times = number(1, 20);
                if (times == NONE) {
                    return fail();
                }
                into.clauses.set(number, TIMES, times);
                advance();
            }
            if (is("if")) {
                advance();
                if (!test(0)) {
                    return false;
                }
            }
            into.mark(TEST + 1);
            return true;
        }

        private int clauseKind() {
            if (ordering) {
                return is("pray") ? PRAY : is("dawn") ? DAWN : NONE;
            }
            return is("rank") ? RANK : is("breath") ? BREATH : is("bars") ? BARS : NONE;
        }

        private boolean sums(int kind) {
            int wanted = kind == PRAY ? 3 : kind == RANK || kind == BREATH ? 1 : 0;
            for (int i = 0; i < TEST; i++) {
                into.mark(i);
                if (i < wanted) {
                    if (i > 0 && !pass(i == 1 ? "for" : "of")) {
                        return false;
                    }
                    if (!sum(0)) {
                        return false;
                    }
                }
            }
            into.mark(TEST);
            return true;
        }

        private boolean test(int depth) {
            if (!both(depth)) {
                return false;
            }
            for (int i = 0; i < MOST_BYTES && is("or"); i++) {
                int place = into.size;
                into.add(OR * STEP);
                advance();
                if (!both(depth)) {
                    return false;
                }
                into.skipFrom(place);
            }
            return true;
        }

        private boolean both(int depth) {
            if (!plain(depth)) {
                return false;
            }
            for (int i = 0; i < MOST_BYTES && is("and"); i++) {
                int place = into.size;
                into.add(AND * STEP);
                advance();
                if (!plain(depth)) {
                    return false;
                }
                into.skipFrom(place);
            }
            return true;
        }

        private boolean plain(int depth) {
            int nots = 0;
            while (nots < MOST_BYTES && is("not")) {
                nots++;
                advance();
            }
            if (is("(")) {
                if (!openBracket(depth) || !test(depth + 1) || !pass(")")) {
                    return false;
                }
            } else {
                if (!sum(depth)) {
                    return false;
                }
                int how = is("<") ? LESS : is(">") ? MORE : is("=") ? SAME : NONE;
                if (how == NONE) {
                    return fail();
                }
                advance();
                if (!sum(depth)) {
                    return false;
                }
                into.add(how * STEP);
            }
            if (nots % 2 == 1) {
                into.add(NOT * STEP);
            }
            return true;
        }

        private boolean sum(int depth) {
            if (!term(depth)) {
                return false;
            }
            for (int i = 0; i < MOST_BYTES && (is("+") || is("-")); i++) {
                int how = is("+") ? PLUS : MINUS;
                advance();
                if (!term(depth)) {
                    return false;
                }
                into.add(how * STEP);
            }
            return true;
        }

        private boolean term(int depth) {
            if (!part(depth)) {
                return false;
            }
            for (int i = 0; i < MOST_BYTES && (is("*") || is("/") || is("%")); i++) {
                int how = is("*") ? TIMES_OF : is("/") ? OVER : LEFT_OF;
                advance();
                if (!part(depth)) {
                    return false;
                }
                into.add(how * STEP);
            }
            return true;
        }

        private boolean part(int depth) {
            if (is("[")) {
                return openBracket(depth) && sum(depth + 1) && pass("]");
            }
            int value = number(0, 1000);
            int fact = value != NONE ? NONE : ordering ? orderFact() : lawFact();
            if ((value == NONE && fact == NONE) || parts >= MOST_PARTS) {
                return fail();
            }
            parts++;
            advance();
            if (fact >= FACT_SAID) {
                int thing = number(0, THINGS - 1);
                if (thing == NONE) {
                    return fail();
                }
                fact += thing;
                advance();
            }
            into.add(fact == NONE ? NUMBER * STEP + value : FACT * STEP + fact);
            return true;
        }

        private boolean openBracket(int depth) {
            if (depth >= MOST_BRACKETS) {
                return fail();
            }
            advance();
            return true;
        }

        private int orderFact() {
            if (is("day")) {
                return FACT_DAY;
            }
            if (is("prayers")) {
                return FACT_PRAYERS;
            }
            if (is("waiting")) {
                return FACT_WAITING;
            }
            if (is("done")) {
                return FACT_DONE;
            }
            return is("said") ? FACT_SAID : is("granted") ? FACT_GRANTED : NONE;
        }

        private int lawFact() {
            if (is("length")) {
                return Judge.FACT_LENGTH;
            }
            if (is("voices")) {
                return Judge.FACT_VOICES;
            }
            if (is("asker")) {
                return Judge.FACT_ASKER;
            }
            if (is("age")) {
                return Judge.FACT_AGE;
            }
            if (is("thing")) {
                return Judge.FACT_THING;
            }
            if (is("waits")) {
                return Judge.FACT_WAITS;
            }
            return is("day") ? Judge.FACT_DAY : is("mood") ? Judge.FACT_MOOD : NONE;
        }
    }

    /** Runs the steps of a Program on a stack. */
    private static final class Reckoner {
        private final int[] stack = new int[64];

        /** A SUM's value, a TEST's 1 or 0, or BROKEN; a part that is not there is so: 1. */
        int value(Program program, int clause, int part, int[] facts) {
            int from = program.clauses.get(clause, PLACES + part);
            int to = Math.min(program.clauses.get(clause, PLACES + part + 1), program.size);
            if (from < 0 || from >= to) {
                return 1;
            }
            int height = 0;
            for (int i = from; i < to; i++) {
                int how = program.steps[i] / STEP;
                int told = program.steps[i] % STEP;
                if (how == NUMBER || how == FACT) {
                    if (height >= stack.length || (how == FACT && told >= facts.length)) {
                        return BROKEN;
                    }
                    stack[height] = how == NUMBER ? told : facts[told];
                    height++;
                } else if (height < 1) {
                    return BROKEN;
                } else if (how == NOT) {
                    stack[height - 1] = 1 - stack[height - 1];
                } else if (how == AND || how == OR) {
                    // what stands behind is asked only if it can still matter
                    if (stack[height - 1] == (how == OR ? 1 : 0)) {
                        i += told;
                    } else {
                        height--;
                    }
                } else {
                    height--;
                    int joined = height < 1 ? BROKEN : join(how, stack[height - 1], stack[height]);
                    if (joined == BROKEN) {
                        return BROKEN;
                    }
                    stack[height - 1] = joined;
                }
            }
            return height == 1 ? stack[0] : BROKEN;
        }

        private static int join(int how, long a, long b) {
            long joined;
            switch (how) {
                case LESS:
                    return a < b ? 1 : 0;
                case MORE:
                    return a > b ? 1 : 0;
                case SAME:
                    return a == b ? 1 : 0;
                case PLUS:
                    joined = a + b;
                    break;
                case MINUS:
                    joined = a - b;
                    break;
                case TIMES_OF:
                    joined = a * b;
                    break;
                case OVER:
                    joined = b == 0 ? BROKEN : a / b;
                    break;
                case LEFT_OF:
                    joined = b == 0 ? BROKEN : a % b;
                    break;
                default:
                    joined = BROKEN;
                    break;
            }
            return joined > FARTHEST || joined < -FARTHEST ? BROKEN : (int) joined;
        }
    }

    /** Asks the LAW in FORCE. */
    private static final class Judge {
        static final int FACT_LENGTH = 0;
        static final int FACT_VOICES = 1;
        static final int FACT_ASKER = 2;
        static final int FACT_AGE = 3;
        static final int FACT_THING = 4;
        static final int FACT_WAITS = 5;
        static final int FACT_DAY = 6;
        static final int FACT_MOOD = 7;

        private final int[] facts = new int[8];
        private final Reckoner reckoner = new Reckoner();

        /** What is told from here on is of a PRAYER at the DAWN of a DAY. */
        void look(Book book, Vigil vigil, int prayer, int day) {
            facts[FACT_LENGTH] = vigil.prayers.get(prayer, LENGTH);
            facts[FACT_VOICES] = vigil.prayers.get(prayer, VOICES);
            facts[FACT_ASKER] = vigil.prayers.get(prayer, ASKER);
            facts[FACT_AGE] = book.people.get(facts[FACT_ASKER], 0);
            facts[FACT_THING] = vigil.prayers.get(prayer, THING);
            facts[FACT_WAITS] = day - vigil.prayers.get(prayer, SAID);
            facts[FACT_DAY] = day;
            facts[FACT_MOOD] = book.term(MOOD);
        }

        int rankTold(Book book) {
            return tells(book, RANK, facts[FACT_LENGTH], -9999, 9999);
        }

        int breathOf(Book book, int person, int day) {
            facts[FACT_LENGTH] = NONE;
            facts[FACT_VOICES] = NONE;
            facts[FACT_ASKER] = person;
            facts[FACT_AGE] = book.people.get(person, 0);
            facts[FACT_THING] = NONE;
            facts[FACT_WAITS] = NONE;
            facts[FACT_DAY] = day;
            facts[FACT_MOOD] = book.term(MOOD);
            return tells(book, BREATH, LONGEST_PRAYER, 0, LONGEST_PRAYER);
        }

        /** What the last CLAUSE of a kind that HOLDS tells ("bars" has no SUM: 1). */
        int tells(Book book, int kind, int without, int low, int high) {
            Program law = book.ruling();
            if (law == null) {
                return without;
            }
            for (int i = law.clauses.size - 1; i >= 0; i--) {
                if (law.clauses.get(i, KIND) == kind && reckoner.value(law, i, TEST, facts) == 1) {
                    int told = reckoner.value(law, i, 0, facts);
                    if (told != BROKEN) {
                        return Math.max(low, Math.min(high, told));
                    }
                }
            }
            return without;
        }
    }

    /** Hears PRAYERS at DAWNS, by RANKS foreseen for the first, second .. DAWN to come. */
    private static final class Herald {
        static final int FARTHEST_DAWN = 20;
        // above all RANKS
        private static final int BARRED = 1000000;

        private final int[] ranks = new int[(FARTHEST_DAWN + 1) * Vigil.ROWS];
        private final Judge judge;
        // of the latest DAWN, as bits
        private int heard;
        private int grantedThings;

        Herald(Judge judge) {
            this.judge = judge;
        }

        void foreseeAll(Book book, Vigil vigil, int dawns) {
            for (int i = 1; i <= dawns; i++) {
                for (int prayer = 0; prayer < vigil.prayers.size; prayer++) {
                    if (vigil.waits(prayer)) {
                        foresee(book, vigil, prayer, i, vigil.day + i);
                    }
                }
            }
        }

        void foresee(Book book, Vigil vigil, int prayer, int dawn, int day) {
            if (!isForeseen(prayer, dawn)) {
                return;
            }
            judge.look(book, vigil, prayer, day);
            boolean barred = judge.tells(book, BARS, 0, 0, 1) == 1;
            int length = vigil.prayers.get(prayer, LENGTH);
            ranks[dawn * Vigil.ROWS + prayer] = barred ? BARRED : judge.tells(book, RANK, length, -9999, 9999);
        }

        private static boolean isForeseen(int prayer, int dawn) {
            return within(prayer, 0, Vigil.ROWS - 1) && within(dawn, 0, FARTHEST_DAWN);
        }

        /** Who is heard next at a DAWN that was foreseen; NONE, if none is. */
        int lowest(Vigil vigil, int dawn) {
            int lowest = NONE;
            int lowestRank = BARRED;
            for (int i = 0; i < vigil.prayers.size && isForeseen(i, dawn); i++) {
                int rank = ranks[dawn * Vigil.ROWS + i];
                if (rank < lowestRank && vigil.waits(i)) {
                    lowest = i;
                    lowestRank = rank;
                }
            }
            return lowest;
        }

        /** A DAWN that was foreseen comes: how many are GRANTED. */
        int hear(Book book, Vigil vigil, int dawn) {
            int granted = 0;
            heard = 0;
            grantedThings = 0;
            vigil.day++;
            for (int i = 0; i < book.term(EARS); i++) {
                int next = lowest(vigil, dawn);
                if (next == NONE) {
                    break;
                }
                boolean denied = isKeptOff(book, vigil, next);
                vigil.prayers.set(next, STATE, denied ? DENIED : GRANTED);
                vigil.prayers.set(next, HEARD_ON, vigil.day);
                heard |= 1 << next;
                if (!denied) {
                    granted++;
                    grantedThings |= 1 << vigil.prayers.get(next, THING);
                }
            }
            return granted;
        }

        private static boolean isKeptOff(Book book, Vigil vigil, int prayer) {
            int things = book.keptOffBy(vigil.prayers.get(prayer, THING));
            for (int i = 0; i < vigil.prayers.size; i++) {
                if (vigil.prayers.get(i, STATE) == GRANTED && (things >> vigil.prayers.get(i, THING) & 1) == 1
                        && vigil.day - vigil.prayers.get(i, HEARD_ON) < book.term(HOLDS)) {
                    return true;
                }
            }
            return false;
        }
    }

    /** The shortest WORDING of each THING. */
    private static final class Wordings {
        // a LENGTH more outweighs all RULES that a shortest wording can take (a THING is never within itself there)
        private static final long WEIGHT_OF_LENGTH = 10000;

        private final long[] weights = new long[THINGS];
        private final int[] chosen = new int[THINGS];
        private final int[] words = new int[THINGS];

        void find(Book book) {
            for (int thing = 0; thing < THINGS; thing++) {
                weights[thing] = NONE;
                chosen[thing] = NONE;
                words[thing] = 0;
            }
            // a shortest wording is at most as deep as there are THINGS
            for (int round = 0; round < THINGS; round++) {
                for (int rule = 0; rule < book.rules.size; rule++) {
                    improve(book, rule);
                }
            }
            for (int rule = book.rules.size - 1; rule >= 0; rule--) {
                int thing = book.rules.get(rule, 0);
                if (isThing(thing) && weights[thing] != NONE && weights[thing] == weigh(book, rule)) {
                    chosen[thing] = rule;
                }
            }
            for (int round = 0; round < THINGS; round++) {
                for (int thing = 0; thing < THINGS; thing++) {
                    words[thing] = countWords(book, chosen[thing]);
                }
            }
        }

        private void improve(Book book, int rule) {
            int thing = book.rules.get(rule, 0);
            long weight = weigh(book, rule);
            if (isThing(thing) && weight != NONE && (weights[thing] == NONE || weight < weights[thing])) {
                weights[thing] = weight;
            }
        }

        /** What a RULE weighs with the best that is known for its PARTS; NONE, if one has none. */
        private long weigh(Book book, int rule) {
            long weight = 1;
            for (int i = 1; i <= 3; i++) {
                int part = book.rules.get(rule, i);
                if (isThing(part - THING_PART)) {
                    if (weights[part - THING_PART] == NONE) {
                        return NONE;
                    }
                    weight += weights[part - THING_PART];
                } else if (part != NONE) {
                    weight += book.words.get(part, 0) * WEIGHT_OF_LENGTH;
                }
            }
            return weight;
        }

        private int countWords(Book book, int rule) {
            int count = 0;
            for (int i = 1; i <= 3; i++) {
                count += wordsIn(book.rules.get(rule, i));
            }
            return count;
        }

        private int wordsIn(int part) {
            if (part == NONE) {
                return 0;
            }
            return isThing(part - THING_PART) ? words[part - THING_PART] : 1;
        }

        int lengthFor(int thing) {
            return isThing(thing) && weights[thing] != NONE ? (int) (weights[thing] / WEIGHT_OF_LENGTH) : NONE;
        }

        int rulesFor(int thing) {
            return isThing(thing) && weights[thing] != NONE ? (int) (weights[thing] % WEIGHT_OF_LENGTH) : NONE;
        }

        int wordsFor(int thing) {
            return isThing(thing) && weights[thing] != NONE ? words[thing] : NONE;
        }

        int wordAt(Book book, int thing, int place) {
            if (place < 0 || place >= wordsFor(thing)) {
                return NONE;
            }
            int part = thing + THING_PART;
            int left = place;
            // each round goes one RULE deeper
            for (int depth = 0; depth <= THINGS && isThing(part - THING_PART); depth++) {
                int rule = chosen[part - THING_PART];
                int column = 1;
                while (column < 3 && left >= wordsIn(book.rules.get(rule, column))) {
                    left -= wordsIn(book.rules.get(rule, column));
                    column++;
                }
                part = book.rules.get(rule, column);
            }
            return part;
        }
    }

    /** The best CODE, found for every set of the THINGS that are asked for, the smaller sets first. */
    private static final class Codes {
        private static final int MOST_ASKED = 6;
        private static final int SETS = 1 << MOST_ASKED;

        private final int[] asked = new int[MOST_ASKED];
        private int askedCount;
        private final int[] letterLengths = new int[3];
        private int letterCount;
        private final int[] weights = new int[SETS];
        private final int[] totals = new int[SETS];
        private final int[] lengths = new int[SETS * MOST_ASKED];
        private final int[] trial = new int[MOST_ASKED];

        boolean find(Book book, int letters) {
            if (!takeLetters(book, letters) || !takeAsked(book)) {
                return false;
            }
            for (int set = 0; set < 1 << askedCount && set < SETS; set++) {
                weights[set] = weightOf(book, set);
                totals[set] = 0;
                clearLengths(set);
                if (Integer.bitCount(set) > 1) {
                    share(set);
                }
            }
            if (askedCount == 1) {
                lengths[MOST_ASKED] = shortestLetter();
                totals[1] = weights[1] * shortestLetter();
            }
            return true;
        }

        int total() {
            return within(askedCount, 0, MOST_ASKED) ? totals[(1 << askedCount) - 1] : NONE;
        }

        int lengthFor(int thing) {
            for (int i = 0; i < askedCount && askedCount <= MOST_ASKED; i++) {
                if (asked[i] == thing) {
                    return lengths[((1 << askedCount) - 1) * MOST_ASKED + i];
                }
            }
            return NONE;
        }

        private boolean takeLetters(Book book, int letters) {
            letterCount = 0;
            if (letters < 0 || letters >= 1 << book.words.size || !within(Integer.bitCount(letters), 2, 3)) {
                return false;
            }
            for (int i = 0; i < book.words.size; i++) {
                if ((letters >> i & 1) == 1 && letterCount < letterLengths.length) {
                    letterLengths[letterCount] = book.words.get(i, 0);
                    letterCount++;
                }
            }
            return true;
        }

        private boolean takeAsked(Book book) {
            askedCount = 0;
            for (int thing = 0; thing < THINGS; thing++) {
                if (book.often[thing] > 0) {
                    if (askedCount >= MOST_ASKED) {
                        return false;
                    }
                    asked[askedCount] = thing;
                    askedCount++;
                }
            }
            return true;
        }

        private int weightOf(Book book, int set) {
            int weight = 0;
            for (int i = 0; i < askedCount && i < MOST_ASKED; i++) {
                if ((set >> i & 1) == 1 && isThing(asked[i])) {
                    weight += book.often[asked[i]];
                }
            }
            return weight;
        }

        private void clearLengths(int set) {
            for (int i = 0; i < MOST_ASKED; i++) {
                lengths[set * MOST_ASKED + i] = 0;
            }
        }

        private int shortestLetter() {
            int shortest = letterLengths[0];
            for (int i = 1; i < letterCount && i < letterLengths.length; i++) {
                shortest = Math.min(shortest, letterLengths[i]);
            }
            return shortest;
        }

        /** Shares a set out among first letters; never all to one of them, without which all were shorter. */
        private void share(int set) {
            totals[set] = NONE;
            for (int a = 0; a < set; a++) {
                for (int b = 0; b < set && isPartOf(a, set); b++) {
                    int c = set & ~a & ~b;
                    if (isPartOf(b, set & ~a) && c != set && (c == 0 || letterCount == 3)) {
                        tryShares(set, a, b, c);
                    }
                }
            }
        }

        private static boolean isPartOf(int set, int all) {
            return (set & ~all) == 0;
        }

        private static boolean isSet(int set) {
            return within(set, 0, SETS - 1);
        }

        private void tryShares(int set, int a, int b, int c) {
            if (!isSet(set) || !isSet(a) || !isSet(b) || !isSet(c)) {
                return;
            }
            int total = totals[a] + letterLengths[0] * weights[a]
                + totals[b] + letterLengths[1] * weights[b]
                + totals[c] + (c == 0 ? 0 : letterLengths[2] * weights[c]);
            if (totals[set] != NONE && total > totals[set]) {
                return;
            }
            for (int i = 0; i < MOST_ASKED; i++) {
                int first = (a >> i & 1) == 1 ? 0 : (b >> i & 1) == 1 ? 1 : 2;
                int share = first == 0 ? a : first == 1 ? b : c;
                boolean shared = (set >> i & 1) == 1;
                trial[i] = shared ? lengths[share * MOST_ASKED + i] + letterLengths[first] : 0;
            }
            if (totals[set] == NONE || total < totals[set] || isTrialAhead(set)) {
                totals[set] = total;
                System.arraycopy(trial, 0, lengths, set * MOST_ASKED, MOST_ASKED);
            }
        }

        private boolean isTrialAhead(int set) {
            for (int i = 0; i < MOST_ASKED; i++) {
                if (trial[i] != lengths[set * MOST_ASKED + i]) {
                    return trial[i] < lengths[set * MOST_ASKED + i];
                }
            }
            return false;
        }
    }

    /** The latest SEASON: its DRAWS, and what is told of those who were PEOPLE in it, whoever is there by now. */
    private static final class Season {
        // the columns of a tally; those of GRANTED and DENIED are told by these STATES
        private static final int SAID_IN_IT = 0;
        private static final int STILL_WAITS = 3;

        private final Rows tallies = new Rows(MOST_PEOPLE, 4);
        private int seed;

        void begin(int from, int people) {
            seed = from;
            tallies.cut(0);
            for (int person = 0; person < people; person++) {
                tallies.open();
                for (int what = SAID_IN_IT; what <= STILL_WAITS; what++) {
                    tallies.set(person, what, 0);
                }
            }
        }

        int draw(int m) {
            seed = (seed * 1103 + 12345) % 1000003;
            return m > 0 ? seed % m : 0;
        }

        void noteSaid(int person) {
            add(person, SAID_IN_IT);
        }

        /** At its end: how all PRAYERS stand, those too that were said or heard ahead of it. */
        void noteStanding(Vigil vigil) {
            for (int i = 0; i < vigil.prayers.size; i++) {
                int state = vigil.prayers.get(i, STATE);
                add(vigil.prayers.get(i, ASKER), state == WAITS ? STILL_WAITS : state);
            }
        }

        private void add(int person, int what) {
            tallies.set(person, what, tallies.get(person, what) + 1);
        }

        int tally(int person, int what) {
            return tallies.get(person, what);
        }
    }
}
