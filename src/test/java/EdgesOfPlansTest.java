/** Promises 20 to 23 at their edges, sentence by sentence: swear, keep, due, hush. */
public final class EdgesOfPlansTest {
    private static final Edge.Call SWEAR = (x, n) -> x.swear(n[0], n[1]);
    private static final Edge.Call KEEP = (x, n) -> x.keep(n[0], n[1]);
    private static final Edge.Call DUE = (x, n) -> x.due(n[0], n[1]);
    private static final Edge.Call HUSH = (x, n) -> x.hush(n[0]);

    public static void main(String[] args) {
        swearAtLeast();
        swearOnDayZero();
        swearNeverDue();
        swearRefused();
        keepMost();
        keepBehindAllOthers();
        keepOfNoPromises();
        keepRefused();
        dueFewest();
        dueInPlaceOfItsOwn();
        dueRefused();
        hushFewest();
        hushLeastRow();
        hushBehindTheLastDay();
        hushTheIth();
        hushRefused();
        Edge.end(20, 23);
    }

    /** A COAT of SIZE 9 that is so much too short behind DAY 1, if nothing was promised on DAY 0. */
    private static PromiseTailor shortBy(char sort, int much) {
        PromiseTailor x = Check.town(sort + "9", "");
        for (int rest = much; rest > 0; rest -= 9) {
            x.lie(1, 0, Math.min(9, rest));
        }
        return x;
    }

    private static void swearAtLeast() {
        Edge.sentence(20, "how GREAT (1 to 9) at least a PROMISE more of it had better be");
        for (int much = 0; much <= 9; much++) {
            // an alderman's is longer by how GREAT it is, so 1 is needed even where nothing is short
            Edge.due("an alderman short by " + much, shortBy('a', much).swear(0, 1), Math.max(1, much));
            // 0 and 1 for 0 more, 2 and 3 for 1 more, up to 8 and 9 for 4 more
            Edge.due("a modest one short by " + much, shortBy('m', much).swear(0, 1), much > 4 ? Check.NONE : Math.max(1, 2 * much));
            // FITS is 1 longer too, so one short by 1 needs 1
            Edge.due("a suitor short by " + much, shortBy('s', much).swear(0, 1), much == 0 ? Check.NONE : (much + 1) / 2);
        }
        Edge.sentence(20, "SWEAR; NONE.");
        PromiseTailor ten = shortBy('a', 9);
        ten.lie(2, 0, 1);
        Edge.due("short by 10: 9 make it 8", ten.swear(0, 2), Check.NONE);
        PromiseTailor nine = shortBy('a', 9);
        Edge.due("short by 9: 9 are enough", nine.swear(0, 1), 9);
        PromiseTailor suitor = shortBy('s', 18);
        Edge.due("a suitor short by 18", suitor.swear(0, 1), 9);
        suitor.lie(1, 0, 1);
        Edge.due("a suitor short by 19", suitor.swear(0, 1), Check.NONE);
        PromiseTailor tooLong = Check.town("m3", "");
        tooLong.letting(0, 0, 1);
        Edge.due("1 longer still FITS, by half of 1", tooLong.swear(0, 0), 1);
        tooLong.letting(0, 0, 1);
        Edge.due("2 longer, and no PROMISE makes it shorter", tooLong.swear(0, 0), Check.NONE);
    }

    private static void swearOnDayZero() {
        Edge.sentence(20, "MADE on DAY 0 behind all others");
        PromiseTailor x = Check.town("a5", "");
        x.lie(0, 0, 2);
        Edge.due("it is there behind DAY 0", x.swear(0, 0), 2);
        Edge.due("and behind DAY 23", x.swear(0, 23), 2);
        PromiseTailor ten = Check.town("a9", "a1xa;a1xa;a1xa;a1xa;a1xa;a1xa;a1xa;a1xa;a1xa;a1xa");
        ten.lie(0, 0, 4);
        Edge.due("behind ten others", ten.swear(0, 22), 4);
        ten.keeping(1, 9);
        Edge.due("a KEEPING of the tenth keeps the tenth", ten.swear(0, 22), 4);
        PromiseTailor full = Towns.allComesToPass();
        int[] wants = {1, 1, 3, 3, 3, 3, Check.NONE, Check.NONE};
        for (int person = 0; person < 8; person++) {
            Edge.due("with all rooms full, of PERSON " + person, full.swear(person, 22), wants[person]);
        }
        PromiseTailor most = Check.town("s9", "a9ax;a9ax;a9ax;a9ax;a9ax;a9ax");
        most.lie(22, 0, 9);
        Edge.due("99 at most, and far from SIZE", most.swear(0, 22), Check.NONE);
        PromiseTailor eighth = Check.town("a0;a0;a0;a0;a0;a0;a0;a3", "");
        eighth.lie(4, 7, 5);
        Edge.due("of PERSON 7", eighth.swear(7, 4), 5);
    }

    private static void swearNeverDue() {
        Edge.sentence(20, "never DUE, so that its COAT FITS behind that DAY");
        for (int day = 0; day < 24; day++) {
            PromiseTailor x = Check.town("a9", "");
            x.lie(day, 0, 3);
            Edge.due("short behind DAY " + day, x.swear(0, day), 3);
            if (day < 23) {
                Edge.due("and behind the last DAY", x.swear(0, 23), 3);
            }
            if (day > 0) {
                Edge.due("not ahead of it", x.swear(0, day - 1), 1);
            }
        }
    }

    private static void swearRefused() {
        Edge.sentence(20, "BAD.");
        Edge.bounds(Towns.EMPTY, "swear", SWEAR, Check.BAD, Edge.range(0, -1), Edge.range(0, 23));
        Edge.bounds(Towns.SOME, "swear", SWEAR, Check.BAD, Edge.range(0, 2), Edge.range(0, 23));
        Edge.bounds(Towns.FULL, "swear", SWEAR, Check.BAD, Edge.range(0, 7), Edge.range(0, 23));
        Edge.asks(Towns.SOME, "swear", SWEAR, 2, 9);
        Edge.asks(Towns.FULL, "swear", SWEAR, 7, 23);
        Edge.asks(Towns.FULL, "swear", SWEAR, 0, 0);
    }

    private static void keepMost() {
        Edge.sentence(21, "makes COATS FIT most PEOPLE behind DAY 23, of like ones the least: which; how many");
        PromiseTailor x = Check.town("a5;a5;a5", "a2ax;b2ax;c2ax");
        Edge.due("all alike: which", x.keep(22, 0), 0);
        Edge.due("all alike: how many", x.keep(22, 1), 1);
        x.keeping(4, 0);
        Edge.due("one is kept already: which", x.keep(23, 0), 1);
        Edge.due("one is kept already: how many", x.keep(23, 1), 2);
        x.keeping(4, 1);
        Edge.due("two are: which", x.keep(0, 0), 2);
        Edge.due("two are: how many", x.keep(0, 1), 3);
        x.keeping(4, 2);
        Edge.due("all are: which", x.keep(0, 0), 0);
        Edge.due("all are: how many", x.keep(0, 1), 3);
        PromiseTailor last = Check.town("a5", "a9xa;a1xa;a1xa;a1xa;a1xa;a1xa;a1xa;a1xa;a1xa;a9xa");
        last.keeping(23, 0);
        for (int i = 1; i <= 7; i++) {
            last.keeping(23, i);
        }
        // 5 + 26 on the last DAY, less 16: 15 is 10 too much, and the tenth is 9
        Edge.due("the tenth: which", last.keep(23, 0), 9);
        Edge.due("the tenth: how many", last.keep(23, 1), 1);
        PromiseTailor none = Check.town("a5", "a1ax;a1ax");
        none.lie(0, 0, 9);
        none.lie(23, 0, 9);
        Edge.due("it FITS nobody: which", none.keep(3, 0), 0);
        Edge.due("it FITS nobody: how many", none.keep(3, 1), 0);
        PromiseTailor nobody = Check.town("", "a1ax");
        Edge.due("nobody is there: which", nobody.keep(3, 0), 0);
        Edge.due("nobody is there: how many", nobody.keep(3, 1), 0);
        PromiseTailor later = Check.town("a5", "a3ax");
        later.lie(23, 0, 1);
        Edge.due("FITS behind other DAYS do not count", later.keep(4, 1), 0);
    }

    private static void keepBehindAllOthers() {
        Edge.sentence(21, "a KEEPING more on it, behind all others (whatever room)");
        PromiseTailor x = Check.town("a5;a5", "a2ax;b2ax");
        for (int i = 0; i < 8; i++) {
            x.keeping(4, 9);
        }
        Edge.due("with no room: how many", x.keep(4, 1), 1);
        Edge.due("with no room: which", x.keep(4, 0), 0);
        Edge.due("KEEPINGS", x.count(4), 8);
        Edge.due("there still is no room", x.keeping(0, 0), Check.FULL);
        PromiseTailor full = Towns.allComesToPass();
        Edge.due("with all rooms full: which", full.keep(9, 0), 0);
        Edge.due("with all rooms full: how many", full.keep(9, 1), 1);
        PromiseTailor due = Check.town("a5", "a2ce");
        for (int day = 0; day < 24; day++) {
            Edge.due("MADE on DAY 2, DUE on DAY 4, on DAY " + day, due.keep(day, 1), day >= 2 && day <= 4 ? 1 : 0);
        }
    }

    private static void keepOfNoPromises() {
        Edge.sentence(21, "NONE: there are no PROMISES.");
        for (int what = 0; what < 2; what++) {
            Edge.due("of nothing", new PromiseTailor().keep(0, what), Check.NONE);
            Edge.due("of PEOPLE alone", Check.town("a5", "").keep(23, what), Check.NONE);
            Edge.due("of PROMISES with a FAULT", Check.town("a5", "a2ax;").keep(8, what), Check.NONE);
        }
    }

    private static void keepRefused() {
        Edge.sentence(21, "KEEP: which (what = 0), how many (1); NONE. BAD.");
        for (Edge.Making making : Towns.ALL) {
            Edge.bounds(making, "keep", KEEP, Check.BAD, Edge.range(0, 23), Edge.range(0, 1));
            Edge.asks(making, "keep", KEEP, 8, 0);
            Edge.asks(making, "keep", KEEP, 8, 1);
        }
    }

    private static void due(PromiseTailor x, String what, int promise, int which, int many) {
        Edge.due(what + ": which", x.due(promise, 0), which);
        Edge.due(what + ": how many", x.due(promise, 1), many);
    }

    private static void dueFewest() {
        Edge.sentence(22, "so that there are fewest SPLITS in all, of like ones the least: which; how many");
        for (int kept = 0; kept < 24; kept++) {
            PromiseTailor x = Check.town("a5", "a2aa");
            x.keeping(kept, 0);
            due(x, "MADE on DAY 0, KEPT on DAY " + kept, 0, kept, 0);
        }
        due(Check.town("a5", "a2ax"), "never KEPT", 0, 0, 1);
        due(Check.town("a5", "a2bx"), "MADE on DAY 1", 0, 0, 0);
        due(Check.town("a5", "a2xx"), "MADE on DAY 23", 0, 0, 0);
        due(Check.town("", "a2ax"), "nobody is there", 0, 0, 0);
        PromiseTailor ten = Check.town("a5", "a1ax;a1ax;a1ax;a1ax;a1ax;a1ax;a1ax;a1ax;a1ax;a1bx");
        due(ten, "the first of ten", 0, 0, 10);
        due(ten, "the tenth", 9, 0, 9);
        ten.keeping(7, 3);
        due(ten, "the one that is KEPT", 3, 7, 9);
        due(ten, "another", 4, 0, 9);
        PromiseTailor tooLate = Check.town("a5", "a1ac");
        tooLate.keeping(9, 0);
        due(tooLate, "KEPT too late for its own DAY", 0, 9, 0);
    }

    private static void dueInPlaceOfItsOwn() {
        Edge.sentence(22, "DUE: which (what = 0), how many (1).");
        due(Check.town("a5", "a1ac;a1ac;a1bc"), "two that are BROKEN whatever the third does", 2, 0, 2);
        Edge.sentence(22, "the DAY on which it had better be DUE, in place of its own");
        PromiseTailor x = Check.town("a5", "a1ac;a1xx");
        due(x, "the last one", 1, 0, 1);
        Edge.due("its own stays", x.promise(1, 3), 23);
        Edge.due("SPLITS stay", x.splits(), 2);
        due(x, "the first one", 0, 0, 2);
        Edge.due("its own stays", x.promise(0, 3), 2);
    }

    private static void dueRefused() {
        Edge.sentence(22, "BAD.");
        Edge.bounds(Towns.EMPTY, "due", DUE, Check.BAD, Edge.range(0, -1), Edge.range(0, 1));
        Edge.bounds(Towns.SOME, "due", DUE, Check.BAD, Edge.range(0, 4), Edge.range(0, 1));
        Edge.bounds(Towns.FULL, "due", DUE, Check.BAD, Edge.range(0, 9), Edge.range(0, 1));
        for (int what = 0; what < 2; what++) {
            Edge.asks(Towns.SOME, "due", DUE, 2, what);
            Edge.asks(Towns.FULL, "due", DUE, 9, what);
        }
    }

    private static PromiseTailor liars(String people, int... personsAndMuch) {
        PromiseTailor x = Check.town(people, "");
        for (int i = 0; i + 1 < personsAndMuch.length; i += 2) {
            Check.due("lie", x.lie(i, personsAndMuch[i], personsAndMuch[i + 1]), i / 2 + 1);
        }
        return x;
    }

    private static void hush(PromiseTailor x, String what, int many, int first, int second) {
        Edge.due(what + ": how many", x.hush(Check.NONE), many);
        Edge.due(what + ": the first", x.hush(0), first);
        Edge.due(what + ": the second", x.hush(1), second);
    }

    private static void hushFewest() {
        Edge.sentence(23, "HUSH: the fewest LIES (0 to 2) that had better not be, so that nobody is NAKED behind DAY 23");
        hush(new PromiseTailor(), "nobody is there", 0, Check.NONE, Check.NONE);
        hush(Check.town("a1", ""), "no LIES, nobody NAKED", 0, Check.NONE, Check.NONE);
        hush(Check.town("a1;a0", ""), "no LIES, one NAKED", Check.NONE, Check.NONE, Check.NONE);
        hush(liars("a2", 0, 1), "1 long is not NAKED", 0, Check.NONE, Check.NONE);
        hush(liars("a2", 0, 2), "0 long is", 1, 0, Check.NONE);
        hush(liars("a5", 1, 9), "a LIE of one that there is not", 0, Check.NONE, Check.NONE);
        hush(liars("a5;a5", 0, 5, 1, 5), "two LIES", 2, 0, 1);
        hush(liars("a5;a5;a5", 0, 5, 1, 5, 2, 5), "three LIES are too many", Check.NONE, Check.NONE, Check.NONE);
        hush(liars("a5", 0, 1, 0, 1, 0, 1, 0, 1, 0, 1), "one of five", 1, 0, Check.NONE);
        hush(liars("a5", 0, 2, 0, 2, 0, 2, 0, 2), "two of four", 2, 0, 1);
        hush(liars("a5", 0, 2, 0, 2, 0, 2, 0, 2, 0, 2), "three of five are too many", Check.NONE, Check.NONE, Check.NONE);
        // LIES are told no more than 9, so a COAT of 0 stays NAKED whatever is hushed
        hush(liars("a0", 0, 9), "nothing to hush helps", Check.NONE, Check.NONE, Check.NONE);
    }

    private static void hushLeastRow() {
        Edge.sentence(23, "of like ones the least row (each more than the one ahead): how many; the i-th; NONE");
        hush(liars("a9", 0, 1, 0, 1, 0, 1, 0, 1, 0, 1, 0, 9), "the last alone is fewer than two", 1, 5, Check.NONE);
        hush(liars("a9", 0, 1, 0, 1, 0, 1, 0, 1, 0, 8, 0, 9), "the two last", 2, 4, 5);
        hush(liars("a9;a9", 0, 1, 1, 9, 1, 9, 0, 1, 0, 1, 0, 1), "the two in the middle", 2, 1, 2);
        hush(liars("a9;a9", 0, 9, 1, 9, 0, 1, 0, 1, 0, 1), "the two first", 2, 0, 1);
        hush(liars("a9;a9", 0, 9, 0, 1, 0, 1, 0, 1, 0, 1, 1, 9), "the first and the last", 2, 0, 5);
        hush(liars("a5;a5", 0, 3, 1, 5, 0, 3, 1, 5), "three would be needed", Check.NONE, Check.NONE, Check.NONE);
        hush(liars("a5;a5", 0, 3, 1, 3, 0, 3, 1, 3), "one of each: 0 and 1, ahead of 0 and 3, 1 and 2, 2 and 3", 2, 0, 1);
        hush(liars("a5;a5", 0, 2, 1, 5, 0, 3), "0 and 1 ahead of 1 and 2", 2, 0, 1);
        hush(liars("a5", 0, 4, 0, 5), "the second alone", 1, 1, Check.NONE);
    }

    private static void hushBehindTheLastDay() {
        Edge.sentence(23, "so that nobody is NAKED behind DAY 23");
        PromiseTailor covered = Check.town("a5", "");
        covered.lie(3, 0, 9);
        covered.letting(23, 0, 1);
        hush(covered, "NAKED on other DAYS alone", 0, Check.NONE, Check.NONE);
        PromiseTailor late = Check.town("a5", "");
        late.lie(23, 0, 5);
        hush(late, "NAKED by the last DAY", 1, 0, Check.NONE);
        PromiseTailor promised = Check.town("a2", "a5ax");
        promised.lie(23, 0, 1);
        hush(promised, "NAKED by a SPLIT", Check.NONE, Check.NONE, Check.NONE);
        promised.keeping(22, 0);
        hush(promised, "it is kept", 0, Check.NONE, Check.NONE);
    }

    private static void hushTheIth() {
        Edge.sentence(23, "HUSH: how many (i = NONE), the i-th (0, 1; NONE); NONE.");
        PromiseTailor two = liars("a5;a5", 0, 5, 1, 5);
        hush(two, "two", 2, 0, 1);
        PromiseTailor one = liars("a5;a5", 1, 5);
        hush(one, "one: there is no second", 1, 0, Check.NONE);
        PromiseTailor none = liars("a5;a5");
        hush(none, "none: there is no first", 0, Check.NONE, Check.NONE);
        hush(liars("a0;a5"), "it cannot be", Check.NONE, Check.NONE, Check.NONE);
        Edge.due("LIES stay", two.count(5), 2);
        Edge.due("their COATS too", two.naked(23), 3);
    }

    private static void hushRefused() {
        Edge.sentence(23, "BAD.");
        Edge.Making cannotBe = () -> Check.town("a0", "");
        for (Edge.Making making : new Edge.Making[] {Towns.EMPTY, Towns.SOME, Towns.FULL, cannotBe}) {
            Edge.bounds(making, "hush", HUSH, Check.BAD, Edge.range(-1, 1));
            for (int i = -1; i <= 1; i++) {
                Edge.asks(making, "hush", HUSH, i);
            }
        }
    }
}
