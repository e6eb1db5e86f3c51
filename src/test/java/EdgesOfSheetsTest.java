import java.math.BigInteger;
import java.util.Random;

/** Promises 31 to 38 at their edges, sentence by sentence: sheet, lose, put, get, copy, write, count, digest. */
public final class EdgesOfSheetsTest {
    private static final int LEAST = Integer.MIN_VALUE;
    private static final int MOST = Integer.MAX_VALUE;
    private static final Edge.Call SHEET = (x, n) -> x.sheet(n[0], n[1], n[2]);
    private static final Edge.Call LOSE = (x, n) -> x.lose(n[0]);
    private static final Edge.Call PUT = (x, n) -> x.put(n[0], n[1], n[2], n[3]);
    private static final Edge.Call GET = (x, n) -> x.get(n[0], n[1], n[2]);
    private static final Edge.Call COPY = (x, n) -> x.copy(n[0], n[1], n[2], n[3], n[4]);
    private static final Edge.Call WRITE = (x, n) -> x.write(n[0], n[1]);
    private static final Edge.Call COUNT = (x, n) -> x.count(n[0]);

    public static void main(String[] args) {
        sheet();
        sheetForms();
        sheetIsNew();
        sheetRefused();
        lose();
        putTheLowestBits();
        putRefused();
        firstThatFits();
        get();
        getRefused();
        copy();
        copyAsTheyWere();
        copyRefused();
        copyNotSoMany();
        write();
        writeRefused();
        count();
        countLatestFinding();
        refusalsChangeNothing();
        digest();
        digestAtTheEnds();
        Edge.end(31, 38);
    }

    private static void sheet() {
        Edge.sentence(31, "A SHEET is a new row of a FORM with n items: n.");
        for (int s = 0; s < 4; s++) {
            for (int form = 0; form < 3; form++) {
                for (int n : new int[] {0, 1, 59, 60}) {
                    PromiseTailor x = new PromiseTailor();
                    Edge.due(Edge.told("sheet", s, form, n), x.sheet(s, form, n), n);
                    Edge.due("no item " + n, x.put(s, form, n, 1), Check.INDEX);
                    Edge.due("an item " + (n - 1), x.put(s, form, n - 1, 1), n == 0 ? Check.INDEX : 1);
                    Edge.due("another FORM", x.put(s, (form + 1) % 3, 0, 1), Check.CAST);
                    Edge.due("another SHEET", x.lose((s + 1) % 4), Check.NULL);
                    Edge.due("its items", x.lose(s), n);
                }
            }
        }
    }

    private static void sheetForms() {
        Edge.sentence(31, "SHEETS 0 .. 3 are LOST (at first) or a row of a FORM: 0 bytes, 1 shorts, 2 ints");
        for (int s = 0; s < 4; s++) {
            PromiseTailor x = new PromiseTailor();
            Edge.due("LOST at first", x.get(s, 0, 0), Check.LEAST_INT);
            Edge.due("its FINDING", x.count(8), 1);
            int[] of98765 = {(byte) 98765, (short) 98765, 98765};
            for (int form = 0; form < 3; form++) {
                x.sheet(s, form, 1);
                x.put(s, form, 0, 98765);
                Edge.due("98765 in FORM " + form, x.get(s, form, 0), of98765[form]);
                for (int other = 0; other < 3; other++) {
                    Edge.due("as of FORM " + other, x.put(s, other, 0, 1), other == form ? 1 : Check.CAST);
                }
            }
        }
    }

    private static void sheetIsNew() {
        Edge.sentence(31, "of 0 to 60 items (0 at first)");
        for (int form = 0; form < 3; form++) {
            PromiseTailor x = new PromiseTailor();
            x.sheet(1, form, 60);
            for (int i = 0; i < 60; i++) {
                Edge.due("item " + i, x.get(1, form, i), 0);
                x.put(1, form, i, 7);
            }
            x.sheet(1, form, 2);
            x.sheet(1, form, 60);
            for (int i = 0; i < 60; i++) {
                Edge.due("item " + i + " of a new row", x.get(1, form, i), 0);
            }
            x.put(1, form, 59, 7);
            x.lose(1);
            x.sheet(1, form, 60);
            Edge.due("an item of a row behind a LOST one", x.get(1, form, 59), 0);
        }
    }

    private static void sheetRefused() {
        Edge.sentence(31, "BAD: SHEET, FORM, above 60; SIZE.");
        for (Edge.Making making : Towns.ALL) {
            // a number of items below 0 is SIZE, so the ends of n are told by hand
            for (int n : new int[] {0, 60}) {
                Edge.bounds(making, "sheet", (x, k) -> x.sheet(k[0], k[1], n), Check.BAD, Edge.range(0, 3), Edge.range(0, 2));
            }
            for (int s : new int[] {0, 3}) {
                for (int form : new int[] {0, 2}) {
                    Edge.refused(making, "sheet", SHEET, Check.BAD, s, form, 61);
                    Edge.refused(making, "sheet", SHEET, Check.BAD, s, form, MOST);
                    Edge.finds(making, "sheet", SHEET, 5, s, form, -1);
                    Edge.finds(making, "sheet", SHEET, 5, s, form, LEAST);
                }
            }
            for (int n : new int[] {-1, LEAST}) {
                Edge.refused(making, "sheet", SHEET, Check.BAD, -1, 0, n);
                Edge.refused(making, "sheet", SHEET, Check.BAD, 4, 0, n);
                Edge.refused(making, "sheet", SHEET, Check.BAD, 0, -1, n);
                Edge.refused(making, "sheet", SHEET, Check.BAD, 0, 3, n);
            }
        }
    }

    private static void lose() {
        Edge.sentence(32, "It is LOST: how many items it had.");
        PromiseTailor x = Towns.FULL.make();
        int[] had = {60, 60, 60, 0};
        for (int s = 0; s < 4; s++) {
            Edge.due("lose(" + s + ")", x.lose(s), had[s]);
            Edge.due("get of it", x.get(s, s == 3 ? 2 : s, 0), Check.LEAST_INT);
            Edge.due("its FINDING", x.count(8), 1);
            Edge.due("lose(" + s + ") again", x.lose(s), Check.NULL);
            for (int other = s + 1; other < 4; other++) {
                Edge.due("SHEET " + other + " stays", x.copy(other, 0, other, 0, 0), 1);
            }
        }
        Edge.sentence(32, "BAD; NULL.");
        for (Edge.Making making : Towns.ALL) {
            Edge.bounds(making, "lose", LOSE, Check.BAD, Edge.range(0, 3));
        }
        for (int s = 0; s < 4; s++) {
            Edge.finds(Towns.EMPTY, "lose", LOSE, 1, s);
        }
        Edge.finds(Towns.SOME, "lose", LOSE, 1, 3);
    }

    private static void putTheLowestBits() {
        Edge.sentence(33, "Item i, treated as of a FORM, becomes v (the lowest bits that it has): 1.");
        int[] v = {0, 1, -1, 127, 128, 129, 255, 256, -128, -129, 32767, 32768, 65535, 65536, -32768, -32769, MOST, LEAST};
        int[] bytes = {0, 1, -1, 127, -128, -127, -1, 0, -128, 127, -1, 0, -1, 0, 0, -1, -1, 0};
        int[] shorts = {0, 1, -1, 127, 128, 129, 255, 256, -128, -129, 32767, -32768, -1, 0, -32768, 32767, -1, 0};
        PromiseTailor x = new PromiseTailor();
        for (int form = 0; form < 3; form++) {
            x.sheet(form, form, 60);
            for (int k = 0; k < v.length; k++) {
                int i = k % 2 == 0 ? 0 : 59;
                Edge.due("put " + v[k], x.put(form, form, i, v[k]), 1);
                Edge.due("item of FORM " + form + " for " + v[k], x.get(form, form, i), form == 0 ? bytes[k] : form == 1 ? shorts[k] : v[k]);
                Edge.due("the next item", x.get(form, form, i == 0 ? 1 : 58), 0);
            }
        }
        Edge.due("no FINDING", x.count(8), 0);
    }

    private static void putRefused() {
        Edge.sentence(33, "BAD; NULL; CAST; INDEX.");
        for (Edge.Making making : Towns.ALL) {
            for (int i : new int[] {0, -1, 60}) {
                Edge.bounds(making, "put", (x, n) -> x.put(n[0], n[1], i, 9), Check.BAD, Edge.range(0, 3), Edge.range(0, 2));
            }
        }
        // SOME has bytes, shorts, ints and a LOST one
        Edge.refused(Towns.SOME, "put", PUT, Check.BAD, 3, 3, -1, 9);
        Edge.refused(Towns.SOME, "put", PUT, Check.BAD, 4, 0, 0, 9);
        Edge.finds(Towns.EMPTY, "put", PUT, 1, 0, 0, 0, 9);
        for (int form = 0; form < 3; form++) {
            Edge.finds(Towns.SOME, "put", PUT, 1, 3, form, 0, 9);
            Edge.finds(Towns.SOME, "put", PUT, 1, 3, form, -1, 9);
            int other = (form + 1) % 3;
            Edge.finds(Towns.SOME, "put", PUT, 3, form, other, 0, 9);
            Edge.finds(Towns.SOME, "put", PUT, 3, form, other, 60, 9);
            Edge.finds(Towns.SOME, "put", PUT, 3, form, (form + 2) % 3, LEAST, 9);
            for (int i : new int[] {-1, 3 + form, 60, LEAST, MOST}) {
                Edge.finds(Towns.SOME, "put", PUT, 2, form, form, i, 9);
            }
            for (int i : new int[] {-1, 60, LEAST, MOST}) {
                Edge.finds(Towns.FULL, "put", PUT, 2, form, form, i, 9);
            }
        }
        Edge.finds(Towns.FULL, "put", PUT, 2, 3, 2, 0, 9);
        Edge.finds(Towns.FULL, "put", PUT, 3, 3, 1, 0, 9);
    }

    /** All that SOME can refuse of an item at once: bytes (3), shorts (4), ints (5), a LOST one, none; any FORM; any item. */
    private static void firstThatFits() {
        int[][] items = new int[6 * 5 * 9][];
        int n = 0;
        for (int s = -1; s <= 4; s++) {
            for (int form = -1; form <= 3; form++) {
                for (int i : new int[] {LEAST, -1, 0, 2, 3, 4, 5, 60, MOST}) {
                    items[n++] = new int[] {s, form, i};
                }
            }
        }
        Edge.sentence(33, "Refusals, the first that fits, in the order told at each act");
        for (int[] item : items) {
            PromiseTailor x = Towns.SOME.make();
            int want = firstRefusal(item[0], item[1], item[2]);
            Edge.due(Edge.told("put", item), x.put(item[0], item[1], item[2], 9), want == 0 ? 1 : want);
            Edge.due("its FINDING", x.count(8), want < -10 ? -10 - want : 0);
        }
        Edge.sentence(34, "Refusals, the first that fits, in the order told at each act");
        for (int[] item : items) {
            PromiseTailor x = Towns.SOME.make();
            int want = firstRefusal(item[0], item[1], item[2]);
            Edge.says(Edge.told("get", item), x.get(item[0], item[1], item[2]) == LEAST == (want != 0));
            Edge.due("its FINDING", x.count(8), want < -10 ? -10 - want : 0);
        }
    }

    private static int firstRefusal(int s, int form, int i) {
        if (s < 0 || s > 3 || form < 0 || form > 2) {
            return Check.BAD;
        }
        return s == 3 ? Check.NULL : s != form ? Check.CAST : i < 0 || i >= 3 + s ? Check.INDEX : 0;
    }

    private static void get() {
        Edge.sentence(34, "Item i of it.");
        PromiseTailor x = Towns.SOME.make();
        int[][] items = {{1, 2, 3}, {1000, -1000, 7, 8}, {100000, 2, 5, 3, 6}};
        for (int form = 0; form < 3; form++) {
            for (int i = 0; i < items[form].length; i++) {
                Edge.due(Edge.told("get", form, form, i), x.get(form, form, i), items[form][i]);
            }
        }
        Edge.due("no FINDING", x.count(8), 0);
        PromiseTailor full = Towns.FULL.make();
        Edge.due("item 59 of bytes", full.get(0, 0, 59), 100);
        Edge.due("item 59 of shorts", full.get(1, 1, 59), 101);
        Edge.due("item 59 of ints", full.get(2, 2, 59), 102);
        full.put(2, 2, 59, LEAST);
        Edge.due("an item that is the least int", full.get(2, 2, 59), LEAST);
        Edge.due("is no FINDING", full.count(8), 5);
        Edge.asks(Towns.SOME, "get", GET, 1, 1, 3);
    }

    private static void getRefused() {
        Edge.sentence(34, "BAD: the least int; so are NULL, CAST, INDEX (count() 8 tells).");
        for (Edge.Making making : Towns.ALL) {
            for (int form : new int[] {0, 2}) {
                for (int s : new int[] {-1, 4, LEAST, MOST}) {
                    Edge.refused(making, "get", GET, LEAST, s, form, 0);
                    Edge.refused(making, "get", GET, LEAST, s, form, -1);
                }
            }
            for (int s : new int[] {0, 3}) {
                for (int form : new int[] {-1, 3, LEAST, MOST}) {
                    Edge.refused(making, "get", GET, LEAST, s, form, 0);
                    Edge.refused(making, "get", GET, LEAST, s, form, 60);
                }
            }
        }
        for (int form = 0; form < 3; form++) {
            Edge.finds(Towns.EMPTY, "get", GET, 1, form, form, 0);
            Edge.finds(Towns.SOME, "get", GET, 1, 3, form, 0);
            Edge.finds(Towns.SOME, "get", GET, 1, 3, form, -1);
            Edge.finds(Towns.SOME, "get", GET, 3, form, (form + 1) % 3, 0);
            Edge.finds(Towns.SOME, "get", GET, 3, form, (form + 2) % 3, -1);
            for (int i : new int[] {-1, 3 + form, 60, LEAST, MOST}) {
                Edge.finds(Towns.SOME, "get", GET, 2, form, form, i);
            }
            Edge.finds(Towns.FULL, "get", GET, 2, form, form, 60);
        }
        Edge.finds(Towns.FULL, "get", GET, 2, 3, 2, 0);
    }

    /** SHEETS 0 and 1 are ints (5 and 4), 2 is shorts (4), 3 is LOST. */
    private static PromiseTailor rows() {
        PromiseTailor x = new PromiseTailor();
        Towns.fill(x, 0, 2, 10, 11, 12, 13, 14);
        Towns.fill(x, 1, 2, 20, 21, 22, 23);
        Towns.fill(x, 2, 1, 30, 31, 32, 33);
        return x;
    }

    private static void row(PromiseTailor x, int s, int... want) {
        for (int i = 0; i < want.length; i++) {
            Edge.due("item " + i + " of SHEET " + s, x.get(s, 2, i), want[i]);
        }
    }

    private static void copy() {
        Edge.sentence(35, "n items of SHEET s, from i on, come to SHEET t (perhaps s, as they were), from j on: 1.");
        PromiseTailor x = rows();
        Edge.due("the last ones to the first", x.copy(0, 3, 1, 0, 2), 1);
        row(x, 1, 13, 14, 22, 23);
        row(x, 0, 10, 11, 12, 13, 14);
        Edge.due("one to the last", x.copy(0, 0, 1, 3, 1), 1);
        row(x, 1, 13, 14, 22, 10);
        Edge.due("all of the shorter", x.copy(1, 0, 0, 1, 4), 1);
        row(x, 0, 10, 13, 14, 22, 10);
        PromiseTailor none = rows();
        for (int[] ends : new int[][] {{0, 0}, {5, 0}, {0, 4}, {5, 4}}) {
            Edge.due("no items, " + Edge.told("from", ends), none.copy(0, ends[0], 1, ends[1], 0), 1);
        }
        row(none, 0, 10, 11, 12, 13, 14);
        row(none, 1, 20, 21, 22, 23);
        PromiseTailor sixty = Towns.FULL.make();
        sixty.sheet(3, 2, 60);
        Edge.due("sixty items", sixty.copy(2, 0, 3, 0, 60), 1);
        Edge.due("the first", sixty.get(3, 2, 0), 21);
        Edge.due("the last", sixty.get(3, 2, 59), 102);
        PromiseTailor empty = new PromiseTailor();
        empty.sheet(0, 0, 0);
        empty.sheet(1, 0, 0);
        Edge.due("of an empty row to another", empty.copy(0, 0, 1, 0, 0), 1);
        Edge.due("of an empty row to itself", empty.copy(0, 0, 0, 0, 0), 1);
    }

    private static void copyAsTheyWere() {
        Edge.sentence(35, "(perhaps s, as they were)");
        PromiseTailor behind = rows();
        Edge.due("one place on", behind.copy(0, 0, 0, 1, 4), 1);
        row(behind, 0, 10, 10, 11, 12, 13);
        PromiseTailor ahead = rows();
        Edge.due("one place back", ahead.copy(0, 1, 0, 0, 4), 1);
        row(ahead, 0, 11, 12, 13, 14, 14);
        PromiseTailor same = rows();
        Edge.due("to where they are", same.copy(0, 0, 0, 0, 5), 1);
        row(same, 0, 10, 11, 12, 13, 14);
    }

    private static void copyRefused() {
        Edge.sentence(35, "BAD: the SHEETS; NULL: s, t; STORE; INDEX: below 0, not so many.");
        for (int wrong : new int[] {-1, 4, LEAST, MOST}) {
            for (int right = 0; right < 4; right++) {
                Edge.refused(EdgesOfSheetsTest::rows, "copy", COPY, Check.BAD, wrong, 0, right, 0, 1);
                Edge.refused(EdgesOfSheetsTest::rows, "copy", COPY, Check.BAD, right, 0, wrong, 0, 1);
                Edge.refused(EdgesOfSheetsTest::rows, "copy", COPY, Check.BAD, wrong, -1, right, -1, -1);
            }
            Edge.refused(EdgesOfSheetsTest::rows, "copy", COPY, Check.BAD, wrong, 0, wrong, 0, 0);
        }
        for (int row = 0; row < 3; row++) {
            Edge.finds(EdgesOfSheetsTest::rows, "copy", COPY, 1, 3, 0, row, 0, 1);
            Edge.finds(EdgesOfSheetsTest::rows, "copy", COPY, 1, row, 0, 3, 0, 1);
            Edge.finds(EdgesOfSheetsTest::rows, "copy", COPY, 1, 3, -1, row, 0, 99);
            Edge.finds(EdgesOfSheetsTest::rows, "copy", COPY, 1, row, 0, 3, -1, -1);
        }
        Edge.finds(EdgesOfSheetsTest::rows, "copy", COPY, 1, 3, 0, 3, 0, 0);
        for (int row = 0; row < 2; row++) {
            for (int n : new int[] {0, 1, -1, 99}) {
                Edge.finds(EdgesOfSheetsTest::rows, "copy", COPY, 4, row, 0, 2, 0, n);
                Edge.finds(EdgesOfSheetsTest::rows, "copy", COPY, 4, 2, 0, row, 0, n);
                Edge.finds(EdgesOfSheetsTest::rows, "copy", COPY, 4, 2, -1, row, 99, n);
            }
        }
    }

    private static void copyNotSoMany() {
        Edge.sentence(35, "INDEX: below 0, not so many.");
        int[][] wrong = {{-1, 0, 1}, {0, -1, 1}, {0, 0, -1}, {-1, 0, 0}, {0, -1, 0}, {-1, -1, -1},
            {5, 0, 1}, {0, 4, 1}, {6, 0, 0}, {0, 5, 0}, {0, 0, 5}, {1, 0, 5}, {2, 0, 4}, {0, 1, 4}, {0, 0, 6}, {4, 3, 2}, {3, 3, 2},
            {LEAST, 0, 1}, {0, LEAST, 1}, {0, 0, LEAST}, {MOST, 0, 1}, {0, MOST, 1}, {0, 0, MOST}, {MOST, MOST, MOST},
            {LEAST, LEAST, LEAST}, {1, 1, MOST}, {MOST, 0, MOST}, {LEAST, 0, MOST}, {5, 0, LEAST}, {1, 1, LEAST}};
        for (int[] w : wrong) {
            Edge.finds(EdgesOfSheetsTest::rows, "copy", COPY, 2, 0, w[0], 1, w[1], w[2]);
        }
        for (int[] w : new int[][] {{0, 1, 5}, {1, 0, 5}, {0, 0, 6}, {5, 5, 1}, {6, 6, 0}, {0, 0, -1}}) {
            Edge.finds(EdgesOfSheetsTest::rows, "copy", COPY, 2, 0, w[0], 0, w[1], w[2]);
        }
    }

    private static void write() {
        Edge.sentence(36, "How long the COAT of a PERSON is behind DAYS 0 on comes to a SHEET from item 0 on, as many as there are items, 24 at most");
        for (int n : new int[] {0, 1, 23, 24, 25, 60}) {
            for (int form = 0; form < 3; form++) {
                PromiseTailor x = Check.town("a0;s9", "b9ax;b9bx;b9cx;b9dx;b9ex;b9fx");
                x.sheet(2, form, n);
                for (int i = 24; i < n; i++) {
                    x.put(2, form, i, 77);
                }
                Edge.due("write to " + n + " items", x.write(1, 2), Math.min(n, 24));
                int[] lengths = {27, 45, 63, 81, 99, 99};
                for (int i = 0; i < n; i++) {
                    int want = i < 6 ? lengths[i] : i < 23 ? 99 : i == 23 ? 0 : 77;
                    Edge.due("item " + i + " of " + n, x.get(2, form, i), want);
                }
                Edge.due("how many items stay", x.lose(2), n);
            }
        }
        PromiseTailor last = Check.town("a0;a0;a0;a0;a0;a0;a0;a6", "");
        last.sheet(0, 0, 2);
        Edge.due("of PERSON 7", last.write(7, 0), 2);
        Edge.due("its COAT", last.get(0, 0, 1), 6);
    }

    private static void writeRefused() {
        Edge.sentence(36, "as many as there are items, 24 at most: how many.");
        PromiseTailor some = Towns.SOME.make();
        Edge.due("to 3 items", some.write(0, 0), 3);
        Edge.due("to 5 items", some.write(2, 2), 5);
        Edge.due("to 60 items", Towns.FULL.make().write(7, 1), 24);
        Edge.due("to no items", Towns.FULL.make().write(7, 3), 0);
        Edge.sentence(36, "BAD; NULL.");
        int[] people = {0, 3, 8};
        for (int i = 0; i < 3; i++) {
            Edge.bounds(Towns.ALL[i], "write", WRITE, Check.BAD, Edge.range(0, people[i] - 1), Edge.range(0, 3));
        }
        for (int person = 0; person < 3; person++) {
            Edge.finds(Towns.SOME, "write", WRITE, 1, person, 3);
        }
        Edge.refused(Towns.SOME, "write", WRITE, Check.BAD, 3, 3);
        Edge.refused(Towns.EMPTY, "write", WRITE, Check.BAD, 0, 0);
    }

    private static void count() {
        Edge.sentence(37, "0 PEOPLE, 1 PROMISES, 2, 3 bytes of texts, 4 KEEPINGS, 5 LIES, 6 LETTINGS, 7 SEEN");
        int[] some = {3, 5, 8, 24, 3, 2, 2, 2, 0};
        int[] full = {8, 10, 23, 49, 8, 6, 6, 8, 5};
        for (int what = 0; what <= 8; what++) {
            Edge.due("of nothing, count(" + what + ")", new PromiseTailor().count(what), 0);
            Edge.due("of some, count(" + what + ")", Towns.SOME.make().count(what), some[what]);
            Edge.due("of a full one, count(" + what + ")", Towns.FULL.make().count(what), full[what]);
        }
        PromiseTailor faulty = Check.town("m1;s2;", "a1ab;");
        Edge.due("PEOPLE with a FAULT", faulty.count(0), 0);
        Edge.due("PROMISES with a FAULT", faulty.count(1), 0);
        Edge.due("bytes with a FAULT", faulty.count(2), 6);
        Edge.due("bytes with a FAULT", faulty.count(3), 5);
        Edge.sentence(37, "BAD.");
        for (Edge.Making making : Towns.ALL) {
            Edge.bounds(making, "count", COUNT, Check.BAD, Edge.range(0, 8));
            for (int what = 0; what <= 8; what++) {
                Edge.asks(making, "count", COUNT, what);
            }
        }
    }

    private static void countLatestFinding() {
        Edge.sentence(37, "8 the number of the latest FINDING (0 before any)");
        PromiseTailor x = new PromiseTailor();
        Edge.due("before any", x.count(8), 0);
        x.type(2, 0);
        x.undo(0);
        x.back(0);
        x.sheet(0, 0, 61);
        x.put(0, 3, 0, 0);
        Edge.due("BAD and NOT are none", x.count(8), 0);
        x.sheet(0, 0, 1);
        x.sheet(1, 1, 1);
        Edge.sentence(37, "5 SIZE: below 0");
        Edge.due("SIZE", x.sheet(0, 0, -1), -15);
        Edge.due("its number", x.count(8), 5);
        Edge.sentence(37, "4 STORE: unlike FORMS");
        Edge.due("STORE", x.copy(0, 0, 1, 0, 1), -14);
        Edge.due("its number", x.count(8), 4);
        Edge.sentence(37, "3 CAST: it has another FORM");
        Edge.due("CAST", x.put(0, 1, 0, 1), -13);
        Edge.due("its number", x.count(8), 3);
        Edge.sentence(37, "2 INDEX: there is no such item");
        Edge.due("INDEX", x.put(0, 0, 1, 1), -12);
        Edge.due("its number", x.count(8), 2);
        Edge.sentence(37, "FINDINGS (answers -10 less the number; they change nothing but count() 8): 1 NULL: the SHEET is LOST");
        Edge.due("NULL", x.lose(3), -11);
        Edge.due("its number", x.count(8), 1);
        Edge.sentence(37, "the latest FINDING");
        x.put(0, 0, 0, 1);
        x.type(2, 0);
        x.wipe(0);
        x.sheet(0, 0, 61);
        Edge.due("it stays", x.count(8), 1);
        for (int i = 1; i <= 8; i++) {
            x.keeping(0, 0);
        }
        x.keeping(0, 0);
        Edge.due("behind FULL too", x.count(8), 1);
    }

    private static void refusedInARow(Edge.Making making, long[] answers, long finding, Edge.Call... calls) {
        PromiseTailor x = making.make();
        for (int i = 0; i < calls.length; i++) {
            Edge.due("refused call " + i, calls[i].on(x), answers[i]);
        }
        Edge.due("count(8) behind them", x.count(8), finding);
        Edge.same("all that is held behind them", Edge.allButFinding(x), Edge.allButFinding(making.make()));
    }

    /** Many refusals one behind the other, as each by itself is held to at its own act. */
    private static void refusalsChangeNothing() {
        Edge.sentence(37, "They change nothing (FINDINGS but count() 8).");
        refusedInARow(Towns.EMPTY, new long[] {-3, -3, -3, -3, -3, -2, -2, Long.MIN_VALUE + 2, -2, -2}, 0,
            (x, n) -> x.undo(0), (x, n) -> x.undo(1), (x, n) -> x.back(0), (x, n) -> x.back(1), (x, n) -> x.back(2),
            (x, n) -> x.person(0, 0), (x, n) -> x.write(0, 0), (x, n) -> x.word(0, 0, 0, 0), (x, n) -> x.year(0, 9, 0), (x, n) -> x.count(9));
        refusedInARow(Towns.EMPTY, new long[] {-11, -11, LEAST, -11, -11, -15, -2}, 5,
            (x, n) -> x.read(0), (x, n) -> x.lose(1), (x, n) -> x.get(2, 0, 0), (x, n) -> x.put(3, 0, 0, 1), (x, n) -> x.copy(0, 0, 1, 0, 1),
            (x, n) -> x.sheet(0, 0, -1), (x, n) -> x.sheet(0, 0, 61));
        refusedInARow(Towns.FULL, new long[] {-4, -4, -4, -4, -4, -4, -2, -2, -2, -2, -2}, 5,
            (x, n) -> x.type(0, ';'), (x, n) -> x.type(1, ';'), (x, n) -> x.keeping(0, 0), (x, n) -> x.lie(0, 0, 1),
            (x, n) -> x.letting(0, 0, 1), (x, n) -> x.seen(0, 0, 0), (x, n) -> x.type(0, 256), (x, n) -> x.keeping(0, 10),
            (x, n) -> x.lie(0, 8, 1), (x, n) -> x.letting(24, 0, 1), (x, n) -> x.seen(0, 0, 100));
        refusedInARow(Towns.FULL, new long[] {-13, -12, -14, -12, -12, LEAST, LEAST, -2}, 3,
            (x, n) -> x.put(0, 1, 0, 1), (x, n) -> x.put(0, 0, 60, 1), (x, n) -> x.copy(0, 0, 1, 0, 1), (x, n) -> x.copy(2, 0, 2, 1, 60),
            (x, n) -> x.copy(2, 0, 3, 0, 1), (x, n) -> x.get(0, 0, -1), (x, n) -> x.get(0, 2, 0), (x, n) -> x.write(8, 0));
    }

    private static long h;

    private static void mix(long... values) {
        for (long value : values) {
            h = 31 * h + value;
        }
    }

    private static long expected(PromiseTailor x) {
        h = 17;
        for (int what = 0; what <= 7; what++) {
            mix(x.count(what));
        }
        mix(x.fault(0), x.fault(1));
        for (int p = 0; p < x.count(1); p++) {
            mix(x.promise(p, 0), x.promise(p, 1), x.promise(p, 2), x.promise(p, 3));
            mix(x.stands(8, p), x.stands(23, p), x.due(p, 0), x.due(p, 1));
        }
        for (int p = 0; p < x.count(0); p++) {
            mix(x.person(p, 0), x.person(p, 1));
            for (int day : new int[] {0, 6, 14, 23}) {
                mix(x.coat(day, p, 0), x.coat(day, p, 1), x.coat(day, p, 2));
            }
            mix(x.swear(p, 14), x.was(p, 0), x.was(p, 1), x.ask(p), x.word(5, p, 14, 0), x.word(5, p, 14, 1));
        }
        for (int day = 0; day < 24; day++) {
            mix(x.neat(day), x.naked(day), x.longest(day));
        }
        mix(x.splits(), x.best(), x.keep(8, 0), x.keep(8, 1), x.hush(-1), x.hush(0), x.never(), x.year(7, 6, 0), x.year(7, 6, 1));
        return h;
    }

    private static PromiseTailor townByChance(Random random) {
        int people = 1 + random.nextInt(4);
        StringBuilder first = new StringBuilder();
        StringBuilder second = new StringBuilder();
        for (int i = 0; i < people; i++) {
            first.append(i == 0 ? "" : ";").append("msa".charAt(random.nextInt(3))).append(random.nextInt(10));
        }
        for (int i = 1 + random.nextInt(10); i > 0; i--) {
            int made = random.nextInt(16);
            second.append((char) ('a' + random.nextInt(people))).append(1 + random.nextInt(9)).append((char) ('a' + made));
            second.append((char) ('a' + made + random.nextInt(24 - made))).append(i == 1 ? "" : ";");
        }
        PromiseTailor x = Check.town(first.toString(), second.toString());
        for (int i = random.nextInt(5); i > 0; i--) {
            x.keeping(random.nextInt(24), random.nextInt(10));
            x.lie(random.nextInt(24), random.nextInt(people), 1 + random.nextInt(4));
            x.letting(random.nextInt(24), random.nextInt(people), 1 + random.nextInt(4));
        }
        return x;
    }

    private static void digest() {
        Edge.sentence(38, "of PROMISES promise() 0 to 3, stands(8, it), stands(23, it), due() 0, 1; of PEOPLE person() 0, 1,"
            + " of DAYS 0, 6, 14, 23 coat(the DAY, it, 0 to 2), then swear(it, 14), was() 0, 1, ask(), word(5, it, 14), above, below;"
            + " of DAYS 0 to 23 neat(), naked(), longest(); splits(), best(), keep(8, 0 and 1), hush(NONE), hush(0), never(),"
            + " year(7, 6, 0 and 1)");
        Edge.due("of PEOPLE alone", Check.town("m4;s3;a5", "").digest(), expected(Check.town("m4;s3;a5", "")));
        Edge.due("of PROMISES alone", Check.town("", "a9ad;b4bf").digest(), expected(Check.town("", "a9ad;b4bf")));
        Edge.due("with FAULTS", Check.town("m4;", "a9ad;").digest(), expected(Check.town("m4;", "a9ad;")));
        Edge.due("of what may be KEPT on DAY 8 alone", Check.town("a5", "a2ii").digest(), expected(Check.town("a5", "a2ii")));
        Random random = new Random(38);
        for (int i = 0; i < 60; i++) {
            PromiseTailor x = townByChance(random);
            Edge.due("of town " + i + " by chance", x.digest(), expected(x));
        }
        Edge.sentence(38, "h is 17; h becomes 31 h and each of: count() 0 to 7; of texts fault()");
        for (Edge.Making making : Towns.ALL) {
            Edge.due("digest()", making.make().digest(), expected(making.make()));
            Edge.asks(making, "digest", (x, n) -> x.digest());
        }
        PromiseTailor nothing = new PromiseTailor();
        nothing.lose(0);
        Edge.due("a FINDING is not in it", nothing.digest(), new PromiseTailor().digest());
        nothing.sheet(0, 0, 5);
        Edge.due("SHEETS are not in it", nothing.digest(), new PromiseTailor().digest());
        nothing.type(0, 'x');
        Edge.says("a byte is", nothing.digest() != new PromiseTailor().digest());
    }

    /** Of an empty object by hand, as longs that wrap; and the last call that is promised. */
    private static void digestAtTheEnds() {
        Edge.sentence(38, "as longs that wrap");
        BigInteger big = BigInteger.valueOf(17);
        // counts, faults, DAYS, then splits, best, keep twice, hush twice, never, year twice
        int[][] rows = {{0, 0, 0, 0, 0, 0, 0, 0}, {-1, -1}, new int[72], {0, -1, -1, -1, 0, -1, 0, 0, 0}};
        for (int day = 0; day < 24; day++) {
            rows[2][3 * day + 2] = -1;
        }
        for (int[] row : rows) {
            for (int value : row) {
                big = big.multiply(BigInteger.valueOf(31)).add(BigInteger.valueOf(value));
            }
        }
        Edge.due("digest() of nothing", new PromiseTailor().digest(), big.longValue());
        Edge.sentence(38, "An object is used for at most 512 calls after it has been made");
        PromiseTailor x = Towns.SOME.make();
        long first = Towns.SOME.make().digest();
        // SOME is made by fewer than 80 calls
        for (int call = 80; call < 511; call++) {
            x.neat(call % 24);
        }
        Edge.due("the last call", x.digest(), first);
    }
}
