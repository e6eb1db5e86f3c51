/** Objects as the tests of sentences find them: with nothing, with something of each sort, with all rooms full. */
final class Towns {
    static final Edge.Making EMPTY = PromiseTailor::new;
    static final Edge.Making SOME = Towns::some;
    static final Edge.Making FULL = Towns::full;
    static final Edge.Making[] ALL = {EMPTY, SOME, FULL};

    private Towns() {
    }

    /** Three PEOPLE, five PROMISES; SHEETS of bytes (3), shorts (4) and ints (5), and one that is LOST; no FINDING yet. */
    private static PromiseTailor some() {
        PromiseTailor x = Check.town("m4;s3;a5", "a9ad;b4bf;c7cc;b2eh;c3fa");
        x.keeping(3, 0);
        x.keeping(4, 1);
        x.keeping(4, 7);
        x.lie(3, 1, 9);
        x.lie(20, 6, 9);
        x.letting(5, 2, 3);
        x.letting(6, 7, 2);
        x.seen(3, 1, 2);
        x.seen(0, 4, 7);
        fill(x, 0, 0, 1, 2, 3);
        fill(x, 1, 1, 1000, -1000, 7, 8);
        fill(x, 2, 2, 100000, 2, 5, 3, 6);
        return x;
    }

    /** Eight PEOPLE, ten PROMISES and no room for anything more; all SHEETS are rows; the latest FINDING was 5. */
    private static PromiseTailor full() {
        PromiseTailor x = Check.town("m4;s3;a5;m0;s9;a1;m7;a9", "a9ad;b4bf;c7cc;b2eh;c3fa;d9ax;e5bm;f6dk;g8gg;h9hv");
        for (int i = 0; i < 8; i++) {
            x.keeping(3 + 2 * i, i == 0 ? 9 : i);
            x.seen(2 * i, i, 4 + i);
        }
        for (int i = 0; i < 6; i++) {
            x.lie(2 + 3 * i, i, 9 - i);
            x.letting(3 + 3 * i, 7 - i, 1 + i);
        }
        x.sheet(0, 0, 60);
        x.sheet(1, 1, 60);
        x.sheet(2, 2, 60);
        x.sheet(3, 2, 0);
        for (int form = 0; form < 3; form++) {
            x.put(form, form, 0, 23 - form);
            x.put(form, form, 59, 100 + form);
        }
        x.sheet(3, 0, -1);
        return x;
    }

    /**
     * As many as there may be of PEOPLE, PROMISES, KEEPINGS, LIES and LETTINGS, and each of them comes to pass: all are
     * aldermen of SIZE 9 with a PROMISE of 3, and the first two with another, that is BROKEN on DAY 23.
     */
    static PromiseTailor allComesToPass() {
        PromiseTailor x = Check.town("a9;a9;a9;a9;a9;a9;a9;a9", "a3ax;b3ax;c3ax;d3ax;e3ax;f3ax;g3ax;h3ax;a3ax;b3ax");
        for (int i = 0; i < 8; i++) {
            Check.due("keeping", x.keeping(5, i), i + 1);
        }
        for (int i = 0; i < 6; i++) {
            Check.due("lie", x.lie(10, i, 4), i + 1);
            Check.due("letting", x.letting(12, 2 + i, i == 5 ? 2 : 1), i + 1);
        }
        return x;
    }

    /** A SHEET becomes a row of a FORM with these items. */
    static void fill(PromiseTailor x, int s, int form, int... items) {
        Check.due("sheet", x.sheet(s, form, items.length), items.length);
        for (int i = 0; i < items.length; i++) {
            Check.due("put", x.put(s, form, i, items[i]), 1);
        }
    }
}
