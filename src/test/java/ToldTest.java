/** Promises 8 to 12: keeping, lie, letting, back, read. */
public final class ToldTest {
    public static void main(String[] args) {
        keeping();
        lie();
        letting();
        back();
        read();
        readRefusals();
        Check.end();
    }

    private static void keeping() {
        PromiseTailor x = new PromiseTailor();
        Check.due("keeping(-1, 0)", x.keeping(-1, 0), Check.BAD);
        Check.due("keeping(24, 0)", x.keeping(24, 0), Check.BAD);
        Check.due("keeping(0, -1)", x.keeping(0, -1), Check.BAD);
        Check.due("keeping(0, 10)", x.keeping(0, 10), Check.BAD);
        for (int i = 1; i <= 8; i++) {
            Check.due("keeping", x.keeping(i == 1 ? 0 : 23, i == 1 ? 9 : 0), i);
        }
        Check.due("keeping full", x.keeping(0, 0), Check.FULL);
        Check.due("keeping bad and full", x.keeping(24, 0), Check.BAD);
        Check.due("count(4)", x.count(4), 8);
    }

    private static void lie() {
        PromiseTailor x = Check.town("m9", "");
        Check.due("lie(-1, 0, 1)", x.lie(-1, 0, 1), Check.BAD);
        Check.due("lie(24, 0, 1)", x.lie(24, 0, 1), Check.BAD);
        Check.due("lie(0, -1, 1)", x.lie(0, -1, 1), Check.BAD);
        Check.due("lie(0, 8, 1)", x.lie(0, 8, 1), Check.BAD);
        Check.due("lie(0, 0, 0)", x.lie(0, 0, 0), Check.BAD);
        Check.due("lie(0, 0, 10)", x.lie(0, 0, 10), Check.BAD);
        Check.due("lie(3, 0, 4)", x.lie(3, 0, 4), 1);
        Check.due("lie of one that there is not", x.lie(0, 7, 9), 2);
        Check.due("ahead of a lie", x.coat(2, 0, 0), 9);
        Check.due("behind a lie", x.coat(3, 0, 0), 5);
        for (int i = 3; i <= 6; i++) {
            Check.due("lie", x.lie(23, 0, 1), i);
        }
        Check.due("lie full", x.lie(0, 0, 1), Check.FULL);
        Check.due("lie bad and full", x.lie(0, 0, 0), Check.BAD);
        Check.due("behind all lies", x.coat(23, 0, 0), 1);
        Check.due("count(5)", x.count(5), 6);
    }

    private static void letting() {
        PromiseTailor x = Check.town("m9", "");
        Check.due("letting(-1, 0, 1)", x.letting(-1, 0, 1), Check.BAD);
        Check.due("letting(24, 0, 1)", x.letting(24, 0, 1), Check.BAD);
        Check.due("letting(0, -1, 1)", x.letting(0, -1, 1), Check.BAD);
        Check.due("letting(0, 8, 1)", x.letting(0, 8, 1), Check.BAD);
        Check.due("letting(0, 0, 0)", x.letting(0, 0, 0), Check.BAD);
        Check.due("letting(0, 0, 10)", x.letting(0, 0, 10), Check.BAD);
        Check.due("letting(3, 0, 4)", x.letting(3, 0, 4), 1);
        Check.due("letting of one that there is not", x.letting(0, 7, 9), 2);
        Check.due("ahead of a letting", x.coat(2, 0, 0), 9);
        Check.due("behind a letting", x.coat(3, 0, 0), 13);
        for (int i = 3; i <= 6; i++) {
            Check.due("letting", x.letting(23, 0, 9), i);
        }
        Check.due("letting full", x.letting(0, 0, 1), Check.FULL);
        Check.due("letting bad and full", x.letting(0, 8, 1), Check.BAD);
        Check.due("behind all lettings", x.coat(23, 0, 0), 49);
        Check.due("count(6)", x.count(6), 6);
    }

    private static void back() {
        PromiseTailor x = Check.town("m9", "");
        for (int what = 0; what < 3; what++) {
            Check.due("back(" + what + ") of none", x.back(what), Check.NOT);
        }
        Check.due("back(3)", x.back(3), Check.BAD);
        Check.due("back(-1)", x.back(-1), Check.BAD);
        x.keeping(1, 1);
        x.keeping(1, 2);
        x.keeping(1, 3);
        x.lie(0, 0, 1);
        x.lie(0, 0, 2);
        x.letting(1, 0, 5);
        Check.due("back(0)", x.back(0), 2);
        Check.due("back(1)", x.back(1), 1);
        Check.due("the last lie is undone", x.coat(0, 0, 0), 8);
        Check.due("back(2)", x.back(2), 0);
        Check.due("the letting is undone", x.coat(1, 0, 0), 8);
        Check.due("count(4)", x.count(4), 2);
        Check.due("count(5)", x.count(5), 1);
        Check.due("count(6)", x.count(6), 0);
        Check.due("back(2)", x.back(2), Check.NOT);
    }

    private static void fill(PromiseTailor x, int s, int form, int... items) {
        Check.due("sheet", x.sheet(s, form, items.length), items.length);
        for (int i = 0; i < items.length; i++) {
            Check.due("put", x.put(s, form, i, items[i]), 1);
        }
    }

    private static void read() {
        PromiseTailor x = Check.town("a0", "a3ax;a4ax");
        fill(x, 1, 2, 5, 1, 6, 0, 7);
        Check.due("ahead of read", x.coat(23, 0, 0), 0);
        Check.due("read of an odd row", x.read(1), 2);
        Check.due("count(4)", x.count(4), 2);
        Check.due("promise 1 was kept on day 5", x.stands(5, 1), 2);
        Check.due("promise 0 was not", x.stands(5, 0), 1);
        Check.due("but on day 6", x.stands(6, 0), 2);
        fill(x, 0, 0, 1, 2, 3, 9, 24, 0, 1, 1);
        Check.due("read ends ahead of a bad day", x.read(0), 2);
        Check.due("read comes behind those told", x.count(4), 4);
        fill(x, 0, 1, 23, 9, 0, 10, 1, 1);
        Check.due("read ends ahead of a bad promise", x.read(0), 1);
        fill(x, 0, 2, 23, 9);
        Check.due("read of an even row", x.read(0), 1);
        x.back(0);
        fill(x, 0, 1, 3, -1, 1, 1);
        Check.due("read ends at once", x.read(0), 0);
        fill(x, 0, 0, 1, 1, 2, 2, 3, 3, 4, 4, 5, 5);
        Check.due("read ends where there is no room", x.read(0), 3);
        Check.due("count(4) full", x.count(4), 8);
        Check.due("read with no room", x.read(0), 0);
        Check.due("no finding", x.count(8), 0);
    }

    private static void readRefusals() {
        PromiseTailor x = new PromiseTailor();
        Check.due("read(-1)", x.read(-1), Check.BAD);
        Check.due("read(4)", x.read(4), Check.BAD);
        Check.due("no finding yet", x.count(8), 0);
        Check.due("read of a lost sheet", x.read(3), Check.NULL);
        Check.due("count(8)", x.count(8), 1);
        x.sheet(3, 0, 0);
        Check.due("read of no items", x.read(3), 0);
        x.sheet(3, 0, 1);
        Check.due("read of one item", x.read(3), 0);
        Check.due("count(4)", x.count(4), 0);
    }
}
