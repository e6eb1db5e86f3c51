/** Promises 31 to 38: sheet, lose, put, get, copy, write, count, digest. */
public final class SheetsTest {
    public static void main(String[] args) {
        sheet();
        lose();
        putAndGet();
        refusalsOfPutAndGet();
        copy();
        refusalsOfCopy();
        write();
        count();
        digest();
        Check.end();
    }

    private static void sheet() {
        PromiseTailor x = new PromiseTailor();
        Check.due("sheet(-1, 0, 1)", x.sheet(-1, 0, 1), Check.BAD);
        Check.due("sheet(4, 0, 1)", x.sheet(4, 0, 1), Check.BAD);
        Check.due("sheet(0, -1, 1)", x.sheet(0, -1, 1), Check.BAD);
        Check.due("sheet(0, 3, 1)", x.sheet(0, 3, 1), Check.BAD);
        Check.due("sheet(0, 0, 61)", x.sheet(0, 0, 61), Check.BAD);
        Check.due("sheet(4, 0, -1)", x.sheet(4, 0, -1), Check.BAD);
        Check.due("no finding", x.count(8), 0);
        Check.due("sheet(0, 0, -1)", x.sheet(0, 0, -1), Check.SIZE);
        Check.due("count(8)", x.count(8), 5);
        Check.due("still lost", x.lose(0), Check.NULL);
        Check.due("sheet(0, 2, 60)", x.sheet(0, 2, 60), 60);
        Check.due("put", x.put(0, 2, 59, 7), 1);
        Check.due("sheet(0, 2, least)", x.sheet(0, 2, Integer.MIN_VALUE), Check.SIZE);
        Check.due("as it was", x.get(0, 2, 59), 7);
        Check.due("a new row", x.sheet(0, 2, 60), 60);
        Check.due("0 at first", x.get(0, 2, 59), 0);
        Check.due("sheet(3, 1, 0)", x.sheet(3, 1, 0), 0);
        Check.due("no items", x.lose(3), 0);
    }

    private static void lose() {
        PromiseTailor x = new PromiseTailor();
        Check.due("lose(-1)", x.lose(-1), Check.BAD);
        Check.due("lose(4)", x.lose(4), Check.BAD);
        Check.due("no finding", x.count(8), 0);
        Check.due("lose(2)", x.lose(2), Check.NULL);
        Check.due("count(8)", x.count(8), 1);
        x.sheet(2, 1, 17);
        Check.due("lose(2)", x.lose(2), 17);
        Check.due("lose(2) again", x.lose(2), Check.NULL);
    }

    private static void putAndGet() {
        PromiseTailor x = new PromiseTailor();
        int[] values = {0, 1, -1, 127, 128, 255, 256, -129, 32767, 32768, 65535, 65536, 0x12345678, Integer.MIN_VALUE};
        for (int form = 0; form < 3; form++) {
            x.sheet(form, form, 2);
            for (int v : values) {
                int cut = form == 0 ? (byte) v : form == 1 ? (short) v : v;
                Check.due("put(" + form + ", " + v + ")", x.put(form, form, 1, v), 1);
                Check.due("get(" + form + ") of " + v, x.get(form, form, 1), cut);
                Check.due("the other item", x.get(form, form, 0), 0);
            }
        }
        Check.due("no finding", x.count(8), 0);
    }

    private static void refusalsOfPutAndGet() {
        PromiseTailor x = new PromiseTailor();
        x.sheet(1, 1, 3);
        int[][] bad = {{-1, 0, 0}, {4, 0, 0}, {1, -1, 0}, {1, 3, 0}};
        for (int[] b : bad) {
            Check.due("put bad", x.put(b[0], b[1], b[2], 5), Check.BAD);
            Check.due("get bad", x.get(b[0], b[1], b[2]), Check.LEAST_INT);
            Check.due("no finding", x.count(8), 0);
        }
        refused(x, 0, 1, 0, Check.NULL);
        refused(x, 0, 2, -1, Check.NULL);
        refused(x, 1, 0, 0, Check.CAST);
        refused(x, 1, 2, 3, Check.CAST);
        refused(x, 1, 1, 3, Check.INDEX);
        refused(x, 1, 1, -1, Check.INDEX);
        refused(x, 1, 1, Integer.MAX_VALUE, Check.INDEX);
        refused(x, 1, 1, Integer.MIN_VALUE, Check.INDEX);
        for (int i = 0; i < 3; i++) {
            Check.due("nothing has changed", x.get(1, 1, i), 0);
        }
        Check.due("the finding stays", x.count(8), 2);
    }

    private static void refused(PromiseTailor x, int s, int form, int i, int want) {
        Check.due("put refused", x.put(s, form, i, 9), want);
        Check.due("its finding", x.count(8), -10 - want);
        x.sheet(3, 0, -1);
        Check.due("get refused", x.get(s, form, i), Check.LEAST_INT);
        Check.due("its finding", x.count(8), -10 - want);
    }

    private static PromiseTailor rows() {
        PromiseTailor x = new PromiseTailor();
        x.sheet(0, 2, 5);
        x.sheet(1, 2, 4);
        x.sheet(2, 1, 4);
        for (int i = 0; i < 5; i++) {
            x.put(0, 2, i, 10 + i);
        }
        return x;
    }

    private static void row(PromiseTailor x, int s, int... want) {
        for (int i = 0; i < want.length; i++) {
            Check.due("item " + i + " of sheet " + s, x.get(s, 2, i), want[i]);
        }
    }

    private static void copy() {
        PromiseTailor x = rows();
        Check.due("copy(0, 1, 1, 2, 2)", x.copy(0, 1, 1, 2, 2), 1);
        row(x, 1, 0, 0, 11, 12);
        row(x, 0, 10, 11, 12, 13, 14);
        Check.due("copy to behind itself", x.copy(0, 0, 0, 1, 4), 1);
        row(x, 0, 10, 10, 11, 12, 13);
        Check.due("copy to ahead of itself", x.copy(0, 2, 0, 0, 3), 1);
        row(x, 0, 11, 12, 13, 12, 13);
        Check.due("copy of nothing at the ends", x.copy(0, 5, 1, 4, 0), 1);
        Check.due("copy of all", x.copy(1, 0, 0, 1, 4), 1);
        row(x, 0, 11, 0, 0, 11, 12);
        Check.due("no finding", x.count(8), 0);
    }

    private static void copyRefused(int s, int i, int t, int j, int n, int want) {
        PromiseTailor x = rows();
        String call = "copy(" + s + ", " + i + ", " + t + ", " + j + ", " + n + ")";
        Check.due(call, x.copy(s, i, t, j, n), want);
        Check.due(call + " count(8)", x.count(8), want == Check.BAD ? 0 : -10 - want);
        row(x, 0, 10, 11, 12, 13, 14);
        row(x, 1, 0, 0, 0, 0);
    }

    private static void refusalsOfCopy() {
        copyRefused(-1, 0, 1, 0, 1, Check.BAD);
        copyRefused(4, 0, 1, 0, 1, Check.BAD);
        copyRefused(0, 0, -1, 0, 1, Check.BAD);
        copyRefused(3, 0, 4, 0, 1, Check.BAD);
        copyRefused(3, 0, 1, 0, 1, Check.NULL);
        copyRefused(0, 0, 3, -1, 1, Check.NULL);
        copyRefused(0, 0, 2, 0, 1, Check.STORE);
        copyRefused(0, -1, 2, 0, 1, Check.STORE);
        copyRefused(0, -1, 1, 0, 1, Check.INDEX);
        copyRefused(0, 0, 1, -1, 1, Check.INDEX);
        copyRefused(0, 0, 1, 0, -1, Check.INDEX);
        copyRefused(0, 2, 1, 0, 4, Check.INDEX);
        copyRefused(0, 0, 1, 0, 5, Check.INDEX);
        copyRefused(0, 0, 1, 3, 2, Check.INDEX);
        copyRefused(0, 6, 1, 0, 0, Check.INDEX);
        copyRefused(0, Integer.MAX_VALUE, 1, 0, Integer.MAX_VALUE, Check.INDEX);
        copyRefused(0, 1, 1, 1, Integer.MAX_VALUE, Check.INDEX);
        copyRefused(0, Integer.MIN_VALUE, 1, 0, Integer.MIN_VALUE, Check.INDEX);
    }

    private static void write() {
        PromiseTailor x = Check.town("s9;a2", "a9ac;b3bx");
        Check.due("write(-1, 0)", x.write(-1, 0), Check.BAD);
        Check.due("write(2, 0)", x.write(2, 0), Check.BAD);
        Check.due("write(0, -1)", x.write(0, -1), Check.BAD);
        Check.due("write(0, 4)", x.write(0, 4), Check.BAD);
        Check.due("no finding", x.count(8), 0);
        Check.due("write to a lost sheet", x.write(0, 0), Check.NULL);
        Check.due("count(8)", x.count(8), 1);
        for (int form = 0; form < 3; form++) {
            x.sheet(form, form, 60);
            x.put(form, form, 24, 77);
            Check.due("write(1, " + form + ")", x.write(1, form), 24);
            for (int day = 0; day < 24; day++) {
                Check.due("item " + day, x.get(form, form, day), x.coat(day, 1, 0));
            }
            Check.due("item 24 stays", x.get(form, form, 24), 77);
        }
        x.sheet(3, 0, 3);
        Check.due("write to three items", x.write(0, 3), 3);
        Check.due("behind day 0", x.get(3, 0, 0), 27);
        Check.due("behind day 1", x.get(3, 0, 1), 27);
        Check.due("behind day 2", x.get(3, 0, 2), 9);
        x.sheet(3, 2, 0);
        Check.due("write to no items", x.write(0, 3), 0);
    }

    private static void count() {
        PromiseTailor x = Check.town("m1;s2;a3", "a1ab;b2cd");
        x.keeping(0, 0);
        x.lie(0, 0, 1);
        x.lie(0, 0, 1);
        x.letting(0, 0, 1);
        x.letting(0, 0, 1);
        x.letting(0, 0, 1);
        x.seen(0, 0, 0);
        x.seen(0, 0, 0);
        x.seen(0, 0, 0);
        x.seen(0, 0, 0);
        x.lose(0);
        int[] want = {3, 2, 8, 9, 1, 2, 3, 4, 1};
        for (int what = 0; what < want.length; what++) {
            Check.due("count(" + what + ")", x.count(what), want[what]);
        }
        Check.due("count(9)", x.count(9), Check.BAD);
        Check.due("count(-1)", x.count(-1), Check.BAD);
        x.sheet(0, 0, -1);
        Check.due("the latest finding", x.count(8), 5);
        x.type(9, 9);
        Check.due("a refusal that is no finding", x.count(8), 5);
    }

    private static void digest() {
        PromiseTailor empty = new PromiseTailor();
        Check.due("digest() of nothing", empty.digest(), expected(empty));
        PromiseTailor x = Check.town("m4;s3;a5", "a9ad;b4bf;c7cc;b2eh;c3fa");
        x.keeping(3, 0);
        x.keeping(4, 1);
        x.keeping(4, 7);
        x.lie(3, 1, 9);
        x.lie(20, 0, 9);
        x.letting(5, 2, 3);
        long ahead = x.digest();
        Check.due("digest()", ahead, expected(x));
        Check.due("digest() changes nothing", x.digest(), ahead);
        x.seen(3, 1, 0);
        Check.due("digest() with one seen", x.digest(), expected(x));
        x.lose(0);
        Check.due("digest() has no findings in it", x.digest(), expected(x));
        x.type(1, ';');
        Check.due("digest() with a fault", x.digest(), expected(x));
    }

    private static long h;

    private static void mix(long value) {
        h = 31 * h + value;
    }

    private static long expected(PromiseTailor x) {
        h = 17;
        for (int what = 0; what <= 7; what++) {
            mix(x.count(what));
        }
        mix(x.fault(0));
        mix(x.fault(1));
        for (int p = 0; p < x.count(1); p++) {
            for (int what = 0; what <= 3; what++) {
                mix(x.promise(p, what));
            }
            mix(x.stands(8, p));
            mix(x.stands(23, p));
            mix(x.due(p, 0));
            mix(x.due(p, 1));
        }
        for (int p = 0; p < x.count(0); p++) {
            mix(x.person(p, 0));
            mix(x.person(p, 1));
            for (int day : new int[] {0, 6, 14, 23}) {
                for (int what = 0; what <= 2; what++) {
                    mix(x.coat(day, p, what));
                }
            }
            mix(x.swear(p, 14));
            mix(x.was(p, 0));
            mix(x.was(p, 1));
            mix(x.ask(p));
            mix(x.word(5, p, 14, 0));
            mix(x.word(5, p, 14, 1));
        }
        for (int day = 0; day < 24; day++) {
            mix(x.neat(day));
            mix(x.naked(day));
            mix(x.longest(day));
        }
        mix(x.splits());
        mix(x.best());
        mix(x.keep(8, 0));
        mix(x.keep(8, 1));
        mix(x.hush(-1));
        mix(x.hush(0));
        mix(x.never());
        mix(x.year(7, 6, 0));
        mix(x.year(7, 6, 1));
        return h;
    }
}
