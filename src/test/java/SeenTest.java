/** Promises 24 to 30: seen, forget, never, was, ask, word, year. */
public final class SeenTest {
    public static void main(String[] args) {
        seen();
        never();
        was();
        ask();
        word();
        wordRefusals();
        year();
        Check.end();
    }

    private static void seen() {
        PromiseTailor x = new PromiseTailor();
        Check.due("forget() of none", x.forget(), 0);
        Check.due("seen(-1, 0, 0)", x.seen(-1, 0, 0), Check.BAD);
        Check.due("seen(24, 0, 0)", x.seen(24, 0, 0), Check.BAD);
        Check.due("seen(0, -1, 0)", x.seen(0, -1, 0), Check.BAD);
        Check.due("seen(0, 8, 0)", x.seen(0, 8, 0), Check.BAD);
        Check.due("seen(0, 0, -1)", x.seen(0, 0, -1), Check.BAD);
        Check.due("seen(0, 0, 100)", x.seen(0, 0, 100), Check.BAD);
        for (int i = 1; i <= 8; i++) {
            Check.due("seen", x.seen(23, 7, 99), i);
        }
        Check.due("seen full", x.seen(0, 0, 0), Check.FULL);
        Check.due("seen bad and full", x.seen(0, 0, 100), Check.BAD);
        Check.due("count(7)", x.count(7), 8);
        Check.due("forget()", x.forget(), 8);
        Check.due("count(7)", x.count(7), 0);
    }

    private static void never() {
        PromiseTailor x = Check.town("a0", "a5ax;a5ax;a3ax");
        Check.due("never() of no keepings", x.never(), 0);
        x.keeping(1, 0);
        x.keeping(2, 1);
        x.keeping(3, 9);
        x.keeping(4, 0);
        Check.due("never() with nothing seen", x.never(), 15);
        // 13, 8, 3; without the first the fourth keeps promise 0
        x.seen(2, 0, 3);
        Check.due("as it is", x.never(), 12);
        x.forget();
        x.seen(2, 0, 8);
        Check.due("one of two", x.never(), 3);
        x.seen(1, 0, 13);
        Check.due("the first", x.never(), 1);
        x.seen(23, 0, 0);
        Check.due("at the end", x.never(), 1);
        x.seen(5, 1, 0);
        Check.due("one that there is not", x.never(), 0);
    }

    private static void was() {
        PromiseTailor x = Check.town("a5;s5", "a4bd;b4bd");
        Check.due("was(0, 0) with nothing seen", x.was(0, 0), 1023);
        Check.due("was(0, 1) with nothing seen", x.was(0, 1), 7);
        // size + 4 - 6, 0 at least
        x.seen(3, 0, 0);
        Check.due("was(0, 0)", x.was(0, 0), 7);
        Check.due("was(0, 1)", x.was(0, 1), 0);
        Check.due("was(1, 0): the other does not come out so", x.was(1, 0), 0);
        x.forget();
        x.seen(3, 0, 3);
        Check.due("was(0, 0)", x.was(0, 0), 32);
        Check.due("was(0, 1)", x.was(0, 1), 4);
        Check.due("was(1, 0)", x.was(1, 0), 1023);
        x.seen(3, 1, 5);
        Check.due("was(1, 0)", x.was(1, 0), 32);
        // modest: 5 + 2 - 2, suitor: 5 + 8 - 8
        Check.due("was(1, 1)", x.was(1, 1), 3);
        x.seen(0, 2, 5);
        Check.due("one that there is not", x.was(1, 0), 0);
        Check.due("was(2, 0)", x.was(2, 0), Check.BAD);
        Check.due("was(-1, 0)", x.was(-1, 0), Check.BAD);
        Check.due("was(0, 2)", x.was(0, 2), Check.BAD);
        Check.due("was(0, -1)", x.was(0, -1), Check.BAD);
        Check.due("its own size is back", x.person(0, 1), 5);
        Check.due("its own sort is back", x.person(0, 0), 2);
    }

    private static void ask() {
        PromiseTailor x = Check.town("a5", "a9cx");
        Check.due("all differ on day 0", x.ask(0), 0);
        x.lie(0, 0, 9);
        // on day 0 all ten are 0 long, on day 1 too, on day 2 all are 9
        Check.due("all are alike", x.ask(0), 0);
        x.keeping(3, 0);
        // kept: from 9 towards size by 9: all differ
        Check.due("the keeping tells", x.ask(0), 3);
        x.seen(0, 0, 1);
        Check.due("no sizes: all days are alike", x.ask(0), 0);
        x.forget();
        PromiseTailor y = Check.town("a5", "a3ac");
        y.lie(1, 0, 4);
        y.seen(1, 0, 0);
        // sizes 0 and 1: 3 and 4 on day 0
        Check.due("was(0, 0)", y.was(0, 0), 3);
        Check.due("day 0 tells", y.ask(0), 0);
        y.lie(0, 0, 6);
        // day 0: sizes 0 to 3 are 0; seen: 0 to 7
        Check.due("was(0, 0)", y.was(0, 0), 255);
        Check.due("day 0: four alike", y.ask(0), 0);
        PromiseTailor few = Check.town("a5", "a3bx");
        few.lie(0, 0, 1);
        few.keeping(2, 0);
        few.seen(0, 0, 0);
        // sizes 0 and 1 are alike on days 0 and 1, not on day 2: 0 and 1
        Check.due("was(0, 0)", few.was(0, 0), 3);
        Check.due("two sizes", few.ask(0), 2);
        PromiseTailor one = Check.town("a3", "a9bx");
        one.lie(0, 0, 9);
        one.keeping(2, 0);
        one.seen(2, 0, 3);
        // other sizes are as long on days 0 and 1, but they are out already
        Check.due("was(0, 0)", one.was(0, 0), 8);
        Check.due("one size: all days are alike", one.ask(0), 0);
        PromiseTailor later = Check.town("a5", "a9aa;a9cx");
        later.keeping(4, 1);
        // day 0: size + 9 + 0 - 11: 0, 1, 2 are alike, day 4: towards size
        Check.due("day 4", later.ask(0), 4);
        Check.due("ask(1)", later.ask(1), Check.BAD);
        Check.due("ask(-1)", later.ask(-1), Check.BAD);
    }

    private static void word(PromiseTailor x, int c, int person, int day, long above, long below) {
        String call = "word(" + c + ", " + person + ", " + day + ", ";
        Check.due(call + "0)", x.word(c, person, day, 0), above);
        Check.due(call + "1)", x.word(c, person, day, 1), below);
    }

    private static void word() {
        PromiseTailor x = Check.town("a3;a0", "a5ax;a4ax;b9ax");
        word(x, 8, 0, 0, 0, 1);
        word(x, 8, 1, 23, 1, 1);
        x.keeping(1, 0);
        x.keeping(2, 1);
        x.keeping(2, 2);
        x.keeping(2, 8);
        // fits behind day 2 if both are kept
        word(x, 8, 0, 2, 1, 4);
        word(x, 5, 0, 2, 25, 256);
        word(x, 16, 0, 2, 1, 1);
        word(x, 0, 0, 2, 0, 1);
        word(x, 8, 0, 1, 0, 1);
        word(x, 6, 1, 2, 3, 8);
        word(x, 6, 1, 1, 0, 1);
        x.keeping(3, 0);
        // either of two keeps promise 0
        word(x, 4, 0, 3, (256 - 144) / 16, 64);
        PromiseTailor full = Check.town("a0", "a1ax");
        for (int i = 0; i < 8; i++) {
            full.keeping(1, 0);
        }
        // 1 fits whether it is kept or not; 2 does not
        word(full, 3, 0, 1, 1, 1);
        full.letting(0, 0, 1);
        long missed = 13L * 13 * 13 * 13 * 13 * 13 * 13 * 13;
        word(full, 3, 0, 1, (1L << 32) - missed, 1L << 32);
    }

    private static void wordRefusals() {
        PromiseTailor x = Check.town("a3", "");
        Check.due("word(-1, ..)", x.word(-1, 0, 0, 0), Check.LONG_BAD);
        Check.due("word(17, ..)", x.word(17, 0, 0, 0), Check.LONG_BAD);
        Check.due("word(.., -1, ..)", x.word(0, -1, 0, 0), Check.LONG_BAD);
        Check.due("word(.., 1, ..)", x.word(0, 1, 0, 0), Check.LONG_BAD);
        Check.due("word(.., -1, .)", x.word(0, 0, -1, 0), Check.LONG_BAD);
        Check.due("word(.., 24, .)", x.word(0, 0, 24, 0), Check.LONG_BAD);
        Check.due("word(.., -1)", x.word(0, 0, 0, -1), Check.LONG_BAD);
        Check.due("word(.., 2)", x.word(0, 0, 0, 2), Check.LONG_BAD);
        Check.due("word(0, 0, 0, 0)", x.word(0, 0, 0, 0), 1);
    }

    private static void year() {
        PromiseTailor x = Check.town("a5;a5", "a5ac;b5am");
        x.keeping(0, 0);
        Check.due("year(1, 0, 0): those told are not", x.year(1, 0, 0), 2);
        Check.due("year(1, 0, 1)", x.year(1, 0, 1), 0);
        // by hand: 1103527590 >>> 16 = 16838, modulo 24: 14; then 2524885223 >>> 16 = 38526, modulo 2: 0
        Check.due("year(1, 1, 0)", x.year(1, 1, 0), 2);
        PromiseTailor y = Check.town("a5", "a5ap;a5xx");
        Check.due("year(1, 1, 0): day 14 of promise 0", y.year(1, 1, 0), 1);
        PromiseTailor z = Check.town("a5", "a5ao");
        Check.due("due on day 14 itself", z.year(1, 1, 0), 0);
        Check.due("it fits", z.year(1, 1, 1), 1);
        PromiseTailor early = Check.town("a5", "a5an");
        Check.due("due on day 13", early.year(1, 1, 0), 1);
        Check.due("it does not fit", early.year(1, 1, 1), 0);
        Check.due("year of a seed below 0", early.year(Integer.MIN_VALUE, 8, 0), early.year(Integer.MIN_VALUE, 8, 0));
        lots(1, 14, 38526);
        PromiseTailor none = Check.town("a5", "");
        Check.due("no promises", none.year(1, 8, 0), 0);
        Check.due("no promises", none.year(1, 8, 1), 1);
        none.lie(0, 0, 1);
        Check.due("lies stay", none.year(1, 8, 1), 0);
        Check.due("year(1, -1, 0)", none.year(1, -1, 0), Check.BAD);
        Check.due("year(1, 9, 0)", none.year(1, 9, 0), Check.BAD);
        Check.due("year(1, 0, -1)", none.year(1, 0, -1), Check.BAD);
        Check.due("year(1, 0, 2)", none.year(1, 0, 2), Check.BAD);
        Check.due("keepings stay", x.count(4), 1);
    }

    /** The first KEEPING of a seed is on a day, of the promise that is its second lot modulo how many there are. */
    private static void lots(int seed, int day, int lot) {
        for (int many = 1; many <= 10; many++) {
            int kept = lot % many;
            PromiseTailor x = Check.town("a0", "");
            for (int i = 0; i < many; i++) {
                // that one can be kept on that day alone, the others never
                String days = i == kept ? "" + (char) ('a' + day) + (char) ('a' + day) : "aa";
                Check.typeAll(x, 1, (i == 0 ? "a1" : ";a1") + days);
            }
            Check.due("day " + day + ", promise " + kept + " of " + many, x.year(seed, 1, 0), many - 1);
        }
    }
}
