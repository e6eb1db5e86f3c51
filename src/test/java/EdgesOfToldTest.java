/** Promises 8 to 12 at their edges, sentence by sentence: keeping, lie, letting, back, read. */
public final class EdgesOfToldTest {
    private static final Edge.Call KEEPING = (x, n) -> x.keeping(n[0], n[1]);
    private static final Edge.Call LIE = (x, n) -> x.lie(n[0], n[1], n[2]);
    private static final Edge.Call LETTING = (x, n) -> x.letting(n[0], n[1], n[2]);
    private static final Edge.Call BACK = (x, n) -> x.back(n[0]);
    private static final Edge.Call READ = (x, n) -> x.read(n[0]);

    public static void main(String[] args) {
        keeping();
        lie();
        letting();
        ofWhatIsNotThere();
        back();
        backOfNone();
        readWhole();
        readAsLongAsEachMayBe();
        readUntilFull();
        readRefused();
        Edge.end(8, 12);
    }

    private static void keeping() {
        Edge.sentence(8, "on a DAY of a PROMISE (0 to 9)");
        for (Edge.Making making : Towns.ALL) {
            Edge.bounds(making, "keeping", KEEPING, Check.BAD, Edge.range(0, 23), Edge.range(0, 9));
        }
        Edge.sentence(8, "DAYS are 0 to 23.");
        PromiseTailor days = Check.town("a5", "a3ax;a3xw");
        Edge.due("no DAY -1", days.keeping(-1, 0), Check.BAD);
        Edge.due("no DAY 24", days.keeping(24, 1), Check.BAD);
        days.keeping(0, 0);
        days.keeping(23, 1);
        Edge.due("kept on DAY 0", days.stands(0, 0), 2);
        Edge.due("kept on DAY 23", days.stands(23, 1), 2);
        Edge.sentence(8, "of a PROMISE (0 to 9)");
        PromiseTailor ninth = Check.town("a5", "a1ax;a1ax;a1ax;a1ax;a1ax;a1ax;a1ax;a1ax;a1ax;a1ax");
        ninth.keeping(7, 9);
        Edge.due("PROMISE 9 is kept", ninth.stands(7, 9), 2);
        Edge.due("PROMISE 8 is not", ninth.stands(7, 8), 1);
        Edge.sentence(8, "KEEPINGS, 8 at most (0 on)");
        PromiseTailor x = new PromiseTailor();
        for (int i = 1; i <= 8; i++) {
            Edge.due("keeping " + i, x.keeping(i, i), i);
        }
        Edge.due("one more", x.keeping(0, 0), Check.FULL);
        Edge.due("how many", x.count(4), 8);
        Edge.due("lies have room", x.lie(0, 0, 1), 1);
        Edge.due("undone", x.back(0), 7);
        Edge.due("there is room again", x.keeping(0, 0), 8);
        Edge.refused(Towns.FULL, "keeping", KEEPING, Check.FULL, 0, 0);
        Edge.refused(Towns.FULL, "keeping", KEEPING, Check.FULL, 23, 9);
        Edge.sentence(8, "BAD; FULL.");
        Edge.refused(Towns.FULL, "keeping", KEEPING, Check.BAD, 24, 0);
        Edge.refused(Towns.FULL, "keeping", KEEPING, Check.BAD, 0, 10);
    }

    private static void lie() {
        Edge.sentence(9, "on a DAY of a PERSON (0 to 7), by so much (1 to 9)");
        for (Edge.Making making : Towns.ALL) {
            Edge.bounds(making, "lie", LIE, Check.BAD, Edge.range(0, 23), Edge.range(0, 7), Edge.range(1, 9));
        }
        PromiseTailor x = Check.town("m9;m9;m9;m9;m9;m9;m9;m9", "");
        x.lie(0, 0, 1);
        x.lie(23, 7, 9);
        Edge.due("PERSON 0 on DAY 0 by 1", x.coat(0, 0, 0), 8);
        Edge.due("PERSON 7 ahead of DAY 23", x.coat(22, 7, 0), 9);
        Edge.due("PERSON 7 on DAY 23 by 9", x.coat(23, 7, 0), 0);
        Edge.sentence(9, "LIES, 6 at most (0 on)");
        PromiseTailor six = new PromiseTailor();
        for (int i = 1; i <= 6; i++) {
            Edge.due("lie " + i, six.lie(i, i, i), i);
        }
        Edge.due("one more", six.lie(0, 0, 1), Check.FULL);
        Edge.due("how many", six.count(5), 6);
        Edge.due("lettings have room", six.letting(0, 0, 1), 1);
        Edge.due("undone", six.back(1), 5);
        Edge.due("there is room again", six.lie(0, 0, 1), 6);
        Edge.refused(Towns.FULL, "lie", LIE, Check.FULL, 0, 0, 1);
        Edge.refused(Towns.FULL, "lie", LIE, Check.FULL, 23, 7, 9);
        Edge.sentence(9, "BAD; FULL.");
        Edge.refused(Towns.FULL, "lie", LIE, Check.BAD, 24, 0, 1);
        Edge.refused(Towns.FULL, "lie", LIE, Check.BAD, 0, 8, 1);
        Edge.refused(Towns.FULL, "lie", LIE, Check.BAD, 0, 0, 0);
    }

    private static void letting() {
        Edge.sentence(10, "on a DAY a coat of a PERSON is LET OUT by so much (1 to 9)");
        for (Edge.Making making : Towns.ALL) {
            Edge.bounds(making, "letting", LETTING, Check.BAD, Edge.range(0, 23), Edge.range(0, 7), Edge.range(1, 9));
        }
        PromiseTailor x = Check.town("m9;m9;m9;m9;m9;m9;m9;m9", "");
        x.letting(0, 0, 1);
        x.letting(23, 7, 9);
        Edge.due("PERSON 0 on DAY 0 by 1", x.coat(0, 0, 0), 10);
        Edge.due("PERSON 7 ahead of DAY 23", x.coat(22, 7, 0), 9);
        Edge.due("PERSON 7 on DAY 23 by 9", x.coat(23, 7, 0), 18);
        Edge.sentence(10, "LETTINGS, 6 at most (0 on)");
        PromiseTailor six = new PromiseTailor();
        for (int i = 1; i <= 6; i++) {
            Edge.due("letting " + i, six.letting(i, i, i), i);
        }
        Edge.due("one more", six.letting(0, 0, 1), Check.FULL);
        Edge.due("how many", six.count(6), 6);
        Edge.due("keepings have room", six.keeping(0, 0), 1);
        Edge.due("undone", six.back(2), 5);
        Edge.due("there is room again", six.letting(0, 0, 1), 6);
        Edge.refused(Towns.FULL, "letting", LETTING, Check.FULL, 0, 0, 1);
        Edge.refused(Towns.FULL, "letting", LETTING, Check.FULL, 23, 7, 9);
        Edge.sentence(10, "BAD; FULL.");
        Edge.refused(Towns.FULL, "letting", LETTING, Check.BAD, 24, 0, 1);
        Edge.refused(Towns.FULL, "letting", LETTING, Check.BAD, 0, 8, 1);
        Edge.refused(Towns.FULL, "letting", LETTING, Check.BAD, 0, 0, 10);
    }

    /** What is told of one that there is not is taken, and counts as soon as there is one. */
    private static void ofWhatIsNotThere() {
        PromiseTailor x = new PromiseTailor();
        Edge.sentence(8, "A KEEPING more: how many.");
        Edge.due("a KEEPING of no PROMISE", x.keeping(2, 0), 1);
        Edge.sentence(9, "A LIE more: how many.");
        Edge.due("a LIE of nobody", x.lie(3, 0, 2), 1);
        Edge.sentence(10, "A LETTING more: how many.");
        Edge.due("a LETTING of nobody", x.letting(4, 0, 7), 1);
        Check.typeAll(x, 0, "a5");
        Check.typeAll(x, 1, "a9ax");
        Edge.sentence(8, "A KEEPING more: how many.");
        Edge.due("now it keeps", x.coat(2, 0, 0), 5);
        Edge.sentence(9, "A LIE more: how many.");
        Edge.due("now it draws in", x.coat(3, 0, 0), 3);
        Edge.sentence(10, "A LETTING more: how many.");
        Edge.due("now it is let out", x.coat(4, 0, 0), 10);
    }

    private static void back() {
        Edge.sentence(11, "The last KEEPING (what = 0), LIE (1), LETTING (2) is undone: how many are left.");
        int[] rooms = {8, 6, 6};
        for (int what = 0; what < 3; what++) {
            PromiseTailor x = Towns.FULL.make();
            for (int left = rooms[what] - 1; left >= 0; left--) {
                Edge.due("back(" + what + ")", x.back(what), left);
                Edge.due("count(" + (4 + what) + ")", x.count(4 + what), left);
            }
            Edge.due("back(" + what + ") of none", x.back(what), Check.NOT);
            for (int other = 0; other < 3; other++) {
                Edge.due("count(" + (4 + other) + ")", x.count(4 + other), other == what ? 0 : rooms[other]);
            }
        }
        PromiseTailor y = Check.town("a5", "a1ax;a2ax");
        y.keeping(1, 0);
        y.keeping(1, 1);
        y.lie(2, 0, 1);
        y.lie(2, 0, 4);
        y.letting(3, 0, 2);
        y.letting(3, 0, 7);
        y.back(0);
        Edge.due("the first KEEPING stays", y.stands(1, 0), 2);
        Edge.due("the last KEEPING is undone", y.stands(1, 1), 1);
        y.back(1);
        Edge.due("the first LIE stays alone", y.coat(2, 0, 0), 6);
        y.back(2);
        Edge.due("the first LETTING stays alone", y.coat(3, 0, 0), 8);
    }

    private static void backOfNone() {
        Edge.sentence(11, "NOT: there is none.");
        Edge.Making onlyKeepings = () -> {
            PromiseTailor x = new PromiseTailor();
            x.keeping(1, 1);
            return x;
        };
        Edge.Making allButKeepings = () -> {
            PromiseTailor x = new PromiseTailor();
            x.lie(1, 1, 1);
            x.letting(1, 1, 1);
            return x;
        };
        for (int what = 0; what < 3; what++) {
            Edge.refused(Towns.EMPTY, "back", BACK, Check.NOT, what);
        }
        Edge.refused(onlyKeepings, "back", BACK, Check.NOT, 1);
        Edge.refused(onlyKeepings, "back", BACK, Check.NOT, 2);
        Edge.refused(allButKeepings, "back", BACK, Check.NOT, 0);
        Edge.sentence(11, "BAD; NOT");
        for (Edge.Making making : Towns.ALL) {
            Edge.bounds(making, "back", BACK, Check.BAD, Edge.range(0, 2));
        }
        Edge.refused(Towns.EMPTY, "back", BACK, Check.BAD, 3);
    }

    private static void readWhole() {
        Edge.sentence(12, "KEEPINGS from a SHEET: its items, two for each, as many as are whole");
        for (int n = 0; n <= 17; n++) {
            for (int form = 0; form < 3; form++) {
                PromiseTailor x = new PromiseTailor();
                x.sheet(form, form, n);
                Edge.due("read of " + n + " items", x.read(form), Math.min(8, n / 2));
                Edge.due("KEEPINGS", x.count(4), Math.min(8, n / 2));
                Edge.due("its items stay", x.lose(form), n);
            }
        }
        PromiseTailor y = Check.town("a5", "a1ax;a2ax;a3ax");
        Towns.fill(y, 3, 2, 4, 2, 2, 1, 9);
        Edge.due("read(3)", y.read(3), 2);
        Edge.due("on DAY 4 PROMISE 2", y.stands(4, 2), 2);
        Edge.due("not on DAY 3", y.stands(3, 2), 1);
        Edge.due("on DAY 2 PROMISE 1", y.stands(2, 1), 2);
        Edge.due("not on DAY 1", y.stands(1, 1), 1);
        Edge.due("PROMISE 0 is not kept", y.stands(22, 0), 1);
        Edge.due("the last item stays", y.get(3, 2, 4), 9);
    }

    private static void readAsLongAsEachMayBe() {
        Edge.sentence(12, "as long as each may be: how many.");
        int least = Integer.MIN_VALUE;
        int most = Integer.MAX_VALUE;
        int[][] wrong = {{-1, 0}, {24, 0}, {0, -1}, {0, 10}, {least, 0}, {most, 0}, {0, least}, {0, most}, {24, 10}};
        for (int[] w : wrong) {
            PromiseTailor x = new PromiseTailor();
            Towns.fill(x, 1, 2, 23, 9, w[0], w[1], 5, 5);
            Edge.due("read up to " + w[0] + ", " + w[1], x.read(1), 1);
            Edge.due("KEEPINGS", x.count(4), 1);
            Edge.due("no FINDING", x.count(8), 0);
            Towns.fill(x, 1, 2, w[0], w[1], 5, 5);
            Edge.due("read ends at once", x.read(1), 0);
            Edge.due("KEEPINGS", x.count(4), 1);
        }
        PromiseTailor ends = new PromiseTailor();
        Towns.fill(ends, 0, 0, 0, 0, 23, 9, 0, 9, 23, 0);
        Edge.due("read of the ends", ends.read(0), 4);
        Towns.fill(ends, 0, 0, 256 + 23, 256 + 9, 255, 0);
        Edge.due("bytes have the lowest bits alone", ends.read(0), 1);
        Towns.fill(ends, 0, 1, 65536 + 23, 65536 + 9, 65535, 0);
        Edge.due("shorts too", ends.read(0), 1);
        Edge.due("KEEPINGS", ends.count(4), 6);
    }

    private static void readUntilFull() {
        Edge.sentence(12, "KEEPINGS, 8 at most (0 on)");
        PromiseTailor x = Check.town("a5", "a1ax;a2ax;a3ax");
        for (int i = 0; i < 6; i++) {
            x.keeping(1, 7);
        }
        Towns.fill(x, 2, 1, 3, 0, 4, 1, 5, 2);
        Edge.due("read with room for two", x.read(2), 2);
        Edge.due("KEEPINGS", x.count(4), 8);
        Edge.due("the first came", x.stands(3, 0), 2);
        Edge.due("the second came", x.stands(4, 1), 2);
        Edge.due("the third did not", x.stands(22, 2), 1);
        Edge.refused(() -> {
            PromiseTailor full = Towns.FULL.make();
            Towns.fill(full, 3, 0, 1, 1);
            return full;
        }, "read", READ, 0, 3);
        PromiseTailor all = new PromiseTailor();
        all.sheet(0, 2, 60);
        Edge.due("read of sixty items", all.read(0), 8);
        Edge.due("read again", all.read(0), 0);
    }

    private static void readRefused() {
        Edge.sentence(12, "BAD; NULL.");
        for (Edge.Making making : Towns.ALL) {
            Edge.bounds(making, "read", READ, Check.BAD, Edge.range(0, 3));
        }
        for (int s = 0; s < 4; s++) {
            Edge.finds(Towns.EMPTY, "read", READ, 1, s);
        }
        Edge.finds(Towns.SOME, "read", READ, 1, 3);
        Edge.finds(() -> {
            PromiseTailor full = Towns.FULL.make();
            full.lose(2);
            return full;
        }, "read", READ, 1, 2);
    }
}
