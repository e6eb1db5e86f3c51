/** Promises 24 to 30 at their edges, sentence by sentence: seen, forget, never, was, ask, word, year. */
public final class EdgesOfSeenTest {
    private static final Edge.Call SEEN = (x, n) -> x.seen(n[0], n[1], n[2]);
    private static final Edge.Call WAS = (x, n) -> x.was(n[0], n[1]);
    private static final Edge.Call ASK = (x, n) -> x.ask(n[0]);
    private static final Edge.Call WORD = (x, n) -> x.word(n[0], n[1], n[2], n[3]);
    private static final Edge.Call YEAR = (x, n) -> x.year(n[0], n[1], n[2]);

    public static void main(String[] args) {
        seen();
        seenOfOneThatThereIsNot();
        forget();
        neverOfNone();
        neverEach();
        neverBits();
        wasSizes();
        wasSorts();
        wasRefused();
        ask();
        askOfEachDay();
        askRefused();
        wordAtTheEnds();
        wordInLowestTerms();
        wordRefused();
        yearByLots();
        yearDayAheadOfPromise();
        yearInPlaceOfThoseTold();
        yearOfNoPromises();
        yearRefused();
        Edge.end(24, 30);
    }

    private static void seen() {
        Edge.sentence(24, "behind a DAY the COAT of a PERSON (0 to 7; one that there is not: never) was so long (0 to 99)");
        for (Edge.Making making : Towns.ALL) {
            Edge.bounds(making, "seen", SEEN, Check.BAD, Edge.range(0, 23), Edge.range(0, 7), Edge.range(0, 99));
        }
        Edge.sentence(24, "SEEN more: how many.");
        PromiseTailor ends = Check.town("a0", "");
        Edge.due("0 long", ends.seen(0, 0, 0), 1);
        Edge.due("99 long, of one that there is not", ends.seen(23, 7, 99), 2);
        Edge.sentence(24, "SEEN, 8 at most");
        PromiseTailor x = new PromiseTailor();
        for (int i = 1; i <= 8; i++) {
            Edge.due("seen " + i, x.seen(i, i - 1, i), i);
        }
        Edge.due("one more", x.seen(0, 0, 0), Check.FULL);
        Edge.due("how many", x.count(7), 8);
        Edge.due("lies have room", x.lie(0, 0, 1), 1);
        Edge.due("forgotten", x.forget(), 8);
        Edge.due("there is room again", x.seen(0, 0, 0), 1);
        Edge.refused(Towns.FULL, "seen", SEEN, Check.FULL, 0, 0, 0);
        Edge.refused(Towns.FULL, "seen", SEEN, Check.FULL, 23, 7, 99);
        Edge.sentence(24, "BAD; FULL.");
        Edge.refused(Towns.FULL, "seen", SEEN, Check.BAD, 24, 0, 0);
        Edge.refused(Towns.FULL, "seen", SEEN, Check.BAD, 0, 8, 0);
        Edge.refused(Towns.FULL, "seen", SEEN, Check.BAD, 0, 0, 100);
    }

    private static void seenOfOneThatThereIsNot() {
        Edge.sentence(24, "one that there is not: never");
        PromiseTailor x = Check.town("a0", "a4ax");
        x.keeping(1, 9);
        x.seen(0, 1, 0);
        Edge.due("never()", x.never(), 0);
        Edge.due("was(0, 0)", x.was(0, 0), 0);
        Edge.due("was(0, 1)", x.was(0, 1), 0);
        Check.typeAll(x, 0, ";a0");
        Edge.due("never(), as soon as there is one", x.never(), 1);
        Edge.due("was(0, 0)", x.was(0, 0), 1023);
        Edge.due("was(1, 0)", x.was(1, 0), 1);
        PromiseTailor nobody = new PromiseTailor();
        nobody.keeping(0, 0);
        nobody.seen(23, 7, 0);
        Edge.due("never() of nobody", nobody.never(), 0);
    }

    private static void forget() {
        Edge.sentence(25, "All SEEN are forgotten: how many.");
        PromiseTailor x = new PromiseTailor();
        Edge.due("forget() of none", x.forget(), 0);
        x.seen(0, 0, 0);
        Edge.due("forget() of one", x.forget(), 1);
        Edge.due("forget() again", x.forget(), 0);
        PromiseTailor full = Towns.FULL.make();
        Edge.due("forget() of eight", full.forget(), 8);
        Edge.due("count(7)", full.count(7), 0);
        Edge.due("all bits of eight KEEPINGS", full.never(), 255);
        for (int i = 1; i <= 8; i++) {
            Edge.due("seen " + i, full.seen(0, 0, 0), i);
        }
        Edge.due("full again", full.seen(0, 0, 0), Check.FULL);
        Edge.refused(Towns.EMPTY, "forget", (y, n) -> y.forget(), 0);
    }

    private static void neverOfNone() {
        Edge.sentence(26, "NEVER: KEEPINGS each of which, had it alone not been, makes all that was SEEN come out so, as bits.");
        Edge.due("no KEEPINGS", new PromiseTailor().never(), 0);
        PromiseTailor x = Check.town("a0", "a4ax");
        x.seen(0, 0, 4);
        Edge.due("no KEEPINGS, all comes out so", x.never(), 0);
        PromiseTailor nobody = new PromiseTailor();
        for (int i = 0; i < 8; i++) {
            nobody.keeping(i, i);
            Edge.due("nothing SEEN", nobody.never(), (2 << i) - 1);
        }
        for (Edge.Making making : Towns.ALL) {
            Edge.asks(making, "never", (y, n) -> y.never());
        }
    }

    private static void neverEach() {
        Edge.sentence(26, "had it alone not been");
        PromiseTailor x = Check.town("a0", "a1ax;a2ax;a3ax;a4ax;a5ax;a6ax;a7ax;a8ax");
        for (int i = 0; i < 8; i++) {
            x.keeping(i, i);
        }
        // 36 less 1, 2, 3 and so on; without one it is longer by that one
        for (int i = 0; i < 8; i++) {
            x.forget();
            x.seen(22, 0, i + 1);
            Edge.due("without KEEPING " + i + " alone", x.never(), 1 << i);
        }
        x.forget();
        x.seen(22, 0, 0);
        Edge.due("all of them were", x.never(), 0);
        x.forget();
        x.seen(22, 0, 3);
        Edge.due("the third, not the first two together", x.never(), 4);
        x.seen(1, 0, 33);
        Edge.due("two SEEN", x.never(), 4);
        x.seen(2, 0, 33);
        Edge.due("three SEEN", x.never(), 4);
        x.seen(2, 0, 30);
        Edge.due("SEEN so and otherwise", x.never(), 0);
        PromiseTailor twice = Check.town("a0", "a5ax");
        twice.keeping(3, 0);
        twice.keeping(3, 0);
        twice.seen(3, 0, 0);
        Edge.due("told twice: each alone changes nothing", twice.never(), 3);
        PromiseTailor last = Check.town("a0", "a5ax");
        last.keeping(23, 0);
        last.seen(0, 0, 5);
        Edge.due("SEEN behind DAY 0", last.never(), 1);
        last.seen(23, 0, 0);
        // not kept it is broken on DAY 23, kept it is 0 long
        Edge.due("SEEN behind DAY 23", last.never(), 1);
    }

    private static void neverBits() {
        Edge.sentence(26, "NEVER, as bits.");
        for (int bits = 0; bits < 256; bits++) {
            PromiseTailor x = Check.town("a0", "a1ax;a1ax;a1ax;a1ax;a1ax;a1ax;a1ax;a1ax");
            // those of a PROMISE that is not there change nothing, and without one of the others the COAT is 1 longer
            for (int i = 0; i < 8; i++) {
                x.keeping(i, (bits >> i & 1) == 1 ? 9 : i);
            }
            x.seen(22, 0, Integer.bitCount(bits));
            Edge.due("KEEPINGS that change nothing", x.never(), bits);
        }
    }

    private static void wasSizes() {
        Edge.sentence(27, "SIZES of a PERSON: 0 to 9, in place of its own, likewise, as bits.");
        for (int size = 0; size <= 9; size++) {
            PromiseTailor x = Check.town("a5", "a3bx");
            Edge.due("nothing SEEN", x.was(0, 0), 1023);
            x.seen(0, 0, size);
            Edge.due("SEEN " + size, x.was(0, 0), 1 << size);
            x.seen(22, 0, size + 3);
            Edge.due("SEEN twice", x.was(0, 0), 1 << size);
            x.seen(22, 0, 13);
            Edge.due("SEEN otherwise", x.was(0, 0), 0);
        }
        PromiseTailor high = Check.town("a5", "");
        high.seen(0, 0, 10);
        Edge.due("SEEN 10", high.was(0, 0), 0);
        PromiseTailor kept = Check.town("a5", "a9bx");
        kept.lie(0, 0, 9);
        kept.keeping(2, 0);
        kept.seen(2, 0, 0);
        // 9 long on DAY 1 whatever SIZE, then no farther than SIZE: towards the SIZE that is tried, not its own
        Edge.due("KEPT towards the SIZE in place of its own", kept.was(0, 0), 1);
        PromiseTailor other = Check.town("a5;a5", "");
        other.seen(0, 1, 4);
        Edge.due("the other's does not come out so", other.was(0, 0), 0);
        Edge.due("the other's own SIZE", other.was(1, 0), 16);
        Edge.due("its own stays", other.person(1, 1), 5);
    }

    private static void wasSorts() {
        Edge.sentence(27, "SORT of a PERSON: 0 m, 1 s, 2 a, in place of its own, likewise, as bits.");
        for (char own : "msa".toCharArray()) {
            PromiseTailor x = Check.town(own + "3", "a4ab");
            Edge.due("nothing SEEN", x.was(0, 1), 7);
            int[] lengths = {5, 11, 7, 8};
            int[] bits = {1, 2, 4, 0};
            for (int i = 0; i < 4; i++) {
                x.forget();
                x.seen(0, 0, lengths[i]);
                Edge.due("SEEN " + lengths[i], x.was(0, 1), bits[i]);
            }
            x.forget();
            x.seen(1, 0, 3);
            Edge.due("BROKEN, no alderman", x.was(0, 1), 3);
            x.forget();
            x.seen(1, 0, 1);
            Edge.due("BROKEN, an alderman by 2 more", x.was(0, 1), 4);
            Edge.due("its own stays", x.person(0, 0), "msa".indexOf(own));
        }
        PromiseTailor other = Check.town("a5;a5", "b4ax");
        other.seen(0, 1, 7);
        Edge.due("the other's does not come out so", other.was(0, 1), 0);
        Edge.due("it is modest", other.was(1, 1), 1);
    }

    private static void wasRefused() {
        Edge.sentence(27, "SIZES (what = 0), SORT (1), as bits. BAD.");
        Edge.bounds(Towns.EMPTY, "was", WAS, Check.BAD, Edge.range(0, -1), Edge.range(0, 1));
        Edge.bounds(Towns.SOME, "was", WAS, Check.BAD, Edge.range(0, 2), Edge.range(0, 1));
        Edge.bounds(Towns.FULL, "was", WAS, Check.BAD, Edge.range(0, 7), Edge.range(0, 1));
        for (int what = 0; what < 2; what++) {
            Edge.asks(Towns.SOME, "was", WAS, 1, what);
            Edge.asks(Towns.FULL, "was", WAS, 7, what);
        }
    }

    private static void ask() {
        Edge.sentence(28, "the greatest number of those SIZES by which the COAT is as long is least, of like ones the least");
        Edge.due("all differ on all DAYS", Check.town("a5", "").ask(0), 0);
        PromiseTailor never = Check.town("a5", "");
        never.lie(0, 0, 9);
        Edge.due("all are alike on all DAYS", never.ask(0), 0);
        PromiseTailor last = Check.town("a5", "a9xa");
        last.lie(0, 0, 9);
        last.keeping(23, 0);
        Edge.due("they differ on the last DAY alone", last.ask(0), 23);
        PromiseTailor pair = Check.town("a5", "a9xa");
        pair.lie(0, 0, 1);
        pair.keeping(23, 0);
        // 0 and 1 are alike until DAY 22
        Edge.due("two are alike until the last DAY", pair.ask(0), 23);
        pair.seen(0, 0, 4);
        Edge.due("one of the SIZES alone", pair.ask(0), 0);
        pair.forget();
        pair.seen(0, 0, 0);
        Edge.due("those two alone", pair.ask(0), 23);
        pair.seen(0, 0, 1);
        Edge.due("none of the SIZES: 0 on all DAYS", pair.ask(0), 0);
        PromiseTailor one = Check.town("a3", "a9bx");
        one.lie(0, 0, 9);
        one.keeping(2, 0);
        one.seen(2, 0, 3);
        // SIZE 3 alone is left, and by others the COAT is as long until DAY 1
        Edge.due("other SIZES do not count", one.ask(0), 0);
        PromiseTailor again = Check.town("a5", "");
        again.lie(0, 0, 2);
        again.letting(1, 0, 5);
        // 0, 1 and 2 are alike on all DAYS, 0 long and 5 long
        Edge.due("SIZE 0 counts", again.ask(0), 0);
        PromiseTailor groups = Check.town("a5", "");
        groups.lie(0, 0, 3);
        groups.lie(4, 0, 2);
        // 0 to 3 are alike from DAY 0 on, 0 to 5 from DAY 4 on
        Edge.due("four are fewer than six", groups.ask(0), 0);
        PromiseTailor later = Check.town("a5", "a2cx");
        later.lie(0, 0, 5);
        later.keeping(3, 0);
        // 0 to 5 are alike, 2 long on DAY 2; towards SIZE by 2: 0, 1, 2, 3, 4, 4 on DAY 3, and 6 is 3 less 0: 5
        Edge.due("the KEEPING parts them", later.ask(0), 3);
    }

    private static void askOfEachDay() {
        Edge.sentence(28, "ASK.");
        for (int day = 1; day < 24; day++) {
            PromiseTailor x = Check.town("m3;a5", "b9" + (char) ('a' + day) + "a");
            x.lie(0, 1, 9);
            x.keeping(day, 0);
            // 0 long by all SIZES, then 9, then as long as SIZE
            Edge.due("SIZES are parted on DAY " + day, x.ask(1), day);
            Edge.due("of another PERSON", x.ask(0), 0);
            x.seen(day, 1, 7);
            Edge.due("one of them is left", x.ask(1), 0);
        }
    }

    private static void askRefused() {
        Edge.sentence(28, "BAD.");
        Edge.bounds(Towns.EMPTY, "ask", ASK, Check.BAD, Edge.range(0, -1));
        Edge.bounds(Towns.SOME, "ask", ASK, Check.BAD, Edge.range(0, 2));
        Edge.bounds(Towns.FULL, "ask", ASK, Check.BAD, Edge.range(0, 7));
        Edge.asks(Towns.SOME, "ask", ASK, 2);
        Edge.asks(Towns.FULL, "ask", ASK, 7);
    }

    private static void word(PromiseTailor x, String what, int c, int day, long above, long below) {
        Edge.due(what + ", above", x.word(c, 0, day, 0), above);
        Edge.due(what + ", below", x.word(c, 0, day, 1), below);
    }

    private static void wordAtTheEnds() {
        Edge.sentence(29, "WORD: each of KEEPINGS is by c sixteenths (0 to 16), by itself: the chance that a COAT FITS a PERSON behind a DAY");
        PromiseTailor none = Check.town("a5", "a4bx");
        for (int c = 0; c <= 16; c++) {
            word(none, "no KEEPINGS, it FITS", c, 0, 1, 1);
            word(none, "no KEEPINGS, it does not", c, 1, 0, 1);
        }
        PromiseTailor one = Check.town("a5", "a4ax");
        one.keeping(23, 0);
        word(one, "none at all", 0, 23, 0, 1);
        word(one, "one sixteenth", 1, 23, 1, 16);
        word(one, "a half", 8, 23, 1, 2);
        word(one, "fifteen sixteenths", 15, 23, 15, 16);
        word(one, "surely", 16, 23, 1, 1);
        word(one, "surely not yet", 16, 22, 0, 1);
        PromiseTailor unlike = Check.town("a5", "a4ax");
        unlike.lie(1, 0, 4);
        unlike.keeping(1, 0);
        // kept it is 5 less 4, else 9 less 4
        word(unlike, "it FITS if it is not kept", 3, 1, 13, 16);
        PromiseTailor full = Check.town("a0;a0", "a2ax;b2ax");
        for (int i = 0; i < 8; i++) {
            full.keeping(i, 0);
        }
        word(full, "one of eight", 1, 22, (1L << 32) - 15L * 15 * 15 * 15 * 15 * 15 * 15 * 15, 1L << 32);
        word(full, "one of eight, by halves", 8, 22, 255, 256);
        word(full, "the first alone", 1, 0, 1, 16);
        word(full, "surely", 16, 0, 1, 1);
        Edge.due("the other's, above", full.word(1, 1, 22, 0), 0);
        Edge.due("the other's, below", full.word(1, 1, 22, 1), 1);
    }

    private static void wordInLowestTerms() {
        Edge.sentence(29, "WORD: above, below.");
        PromiseTailor half = Check.town("a5", "a4ax");
        half.keeping(1, 0);
        Edge.due("above is what = 0", half.word(6, 0, 1, 0), 3);
        Edge.due("below is what = 1", half.word(6, 0, 1, 1), 8);
        Edge.sentence(29, "FRACTIONS are told in lowest terms, above and below (0 by 1).");
        for (int c = 0; c <= 16; c++) {
            PromiseTailor x = Check.town("a5", "a4ax;a3ax");
            x.keeping(1, 0);
            x.keeping(2, 1);
            // behind DAY 2 both must be
            int above = c * c;
            int below = 256;
            while (below > 1 && above % 2 == 0) {
                above /= 2;
                below /= 2;
            }
            word(x, c + " sixteenths twice", c, 2, above, c == 0 ? 1 : below);
        }
        PromiseTailor eight = Check.town("a5", "a2ax;a2ax;a2ax;a2ax;a2ax;a2ax;a2ax;a2ax");
        for (int i = 0; i < 8; i++) {
            eight.keeping(i, i);
        }
        word(eight, "all of eight, by 1", 1, 22, 1, 1L << 32);
        word(eight, "all of eight, by 2", 2, 22, 1, 1L << 24);
        word(eight, "all of eight, by 15", 15, 22, 15L * 15 * 15 * 15 * 15 * 15 * 15 * 15, 1L << 32);
        word(eight, "all of eight, by 14", 14, 22, 7L * 7 * 7 * 7 * 7 * 7 * 7 * 7, 1L << 24);
        word(eight, "all of eight, by 0", 0, 22, 0, 1);
        word(eight, "all of eight, by 16", 16, 22, 1, 1);
    }

    private static void wordRefused() {
        Edge.sentence(29, "Where the answer is a long, a refusal -x is the least long and x more.");
        Edge.due("BAD", Check.town("a5", "").word(17, 0, 0, 0), Long.MIN_VALUE + 2);
        Edge.sentence(29, "BAD. (As the least long.)");
        int[][] numbers = {Edge.range(0, 16), null, Edge.range(0, 23), Edge.range(0, 1)};
        int[] people = {0, 3, 8};
        for (int i = 0; i < 3; i++) {
            numbers[1] = Edge.range(0, people[i] - 1);
            Edge.bounds(Towns.ALL[i], "word", WORD, Check.LONG_BAD, numbers);
        }
        Edge.asks(Towns.SOME, "word", WORD, 5, 1, 14, 0);
        Edge.asks(Towns.FULL, "word", WORD, 5, 7, 14, 1);
    }

    /** The upper half of the next seed, by longs and with no int that wraps. */
    private static final class Lots {
        private long seed;

        Lots(int seed) {
            this.seed = seed & 0xffffffffL;
        }

        int of(int m) {
            seed = (1103515245L * seed + 12345L) % (1L << 32);
            return (int) (seed / 65536 % m);
        }
    }

    private static void yearByLots() {
        Edge.sentence(30, "LOTS of m: SEED becomes 1103515245 SEED and 12345, as ints that wrap; its upper 16 bits as a number from 0 on, modulo m.");
        int[] seeds = {0, 1, -1, 2, 7, 12345, 0x7fff, 0xffff, 0x10000, -65536, Integer.MAX_VALUE, Integer.MIN_VALUE, -1103515245, 0x55555555};
        String promises = "a9ax;b4bf;c7cc;a2eh;b3fg;c9ax;a5bm;b6dk;c8gg;a9hv";
        for (int seed : seeds) {
            for (int many = 1; many <= 10; many++) {
                String some = promises.substring(0, 5 * many - 1);
                for (int n = 0; n <= 8; n++) {
                    likeTold("seed " + seed + ", " + n + " KEEPINGS of " + many + " PROMISES", some, seed, n);
                }
            }
        }
    }

    private static void yearDayAheadOfPromise() {
        Edge.sentence(30, "of each a LOT of 24 (its DAY), a LOT of PROMISES: how many PROMISES are BROKEN; how many PEOPLE it FITS behind DAY 23");
        // of seed 1 the first LOTS are 16838 and 38526: DAY 14 of PROMISE 0 of 1 and of 2, of PROMISE 6 of 10
        Edge.due("DUE on DAY 13", Check.town("a5", "a9an").year(1, 1, 0), 1);
        Edge.due("DUE on DAY 14", Check.town("a5", "a9ao").year(1, 1, 0), 0);
        Edge.due("MADE on DAY 14", Check.town("a5", "a9oo").year(1, 1, 0), 0);
        Edge.due("MADE on DAY 15", Check.town("a5", "a9pp").year(1, 1, 0), 1);
        Edge.due("it FITS", Check.town("a5", "a9oo").year(1, 1, 1), 1);
        Edge.due("it does not", Check.town("a5", "a9pp").year(1, 1, 1), 0);
        PromiseTailor ten = Check.town("a0", "a1aa;a1aa;a1aa;a1aa;a1aa;a1aa;a1oo;a1aa;a1aa;a1aa");
        Edge.due("PROMISE 6 of 10", ten.year(1, 1, 0), 9);
        PromiseTailor nobody = Check.town("a0;a0", "a1oo;h1oo");
        Edge.due("a PROMISE of one that there is not is never BROKEN", nobody.year(1, 1, 0), 0);
    }

    /** A year by a seed is as one in which the KEEPINGS of its LOTS were told. */
    private static void likeTold(String what, String promises, int seed, int n) {
        PromiseTailor x = Check.town("m4;s3;a5", promises);
        PromiseTailor told = Check.town("m4;s3;a5", promises);
        Lots lots = new Lots(seed);
        int many = (promises.length() + 1) / 5;
        for (int i = 0; i < n; i++) {
            int day = lots.of(24);
            told.keeping(day, lots.of(many));
        }
        int broken = 0;
        for (int i = 0; i < many; i++) {
            broken += told.stands(23, i) == 3 ? 1 : 0;
        }
        Edge.due(what + ": BROKEN", x.year(seed, n, 0), broken);
        Edge.due(what + ": FITS", x.year(seed, n, 1), Integer.bitCount(told.neat(23)));
    }

    private static void yearInPlaceOfThoseTold() {
        Edge.sentence(30, "YEAR by a SEED: n KEEPINGS (0 to 8), in place of those told (none where there are no PROMISES)");
        PromiseTailor x = Check.town("a5", "a4ax;a2ax");
        x.keeping(1, 0);
        x.keeping(1, 1);
        Edge.due("told: SPLITS", x.splits(), 0);
        Edge.due("none in their place: BROKEN", x.year(1, 0, 0), 2);
        Edge.due("none in their place: FITS", x.year(1, 0, 1), 0);
        Edge.due("those told stay", x.splits(), 0);
        PromiseTailor full = Towns.FULL.make();
        full.year(3, 8, 0);
        Edge.due("with no room KEEPINGS stay", full.count(4), 8);
        PromiseTailor nobody = Check.town("", "a4ax");
        Edge.due("nobody is there: BROKEN", nobody.year(1, 8, 0), 0);
        Edge.due("nobody is there: FITS", nobody.year(1, 8, 1), 0);
    }

    private static void yearOfNoPromises() {
        Edge.sentence(30, "none where there are no PROMISES");
        for (int seed : new int[] {0, 1, -1, Integer.MIN_VALUE, Integer.MAX_VALUE}) {
            Edge.due("of nothing: BROKEN", new PromiseTailor().year(seed, 8, 0), 0);
            Edge.due("of nothing: FITS", new PromiseTailor().year(seed, 8, 1), 0);
            PromiseTailor x = Check.town("a5;a5", "a4ax;");
            x.lie(23, 1, 1);
            Edge.due("of PROMISES with a FAULT: BROKEN", x.year(seed, 8, 0), 0);
            Edge.due("of PROMISES with a FAULT: FITS", x.year(seed, 8, 1), 1);
        }
    }

    private static void yearRefused() {
        Edge.sentence(30, "YEAR: how many are BROKEN (what = 0), how many it FITS (1). BAD.");
        for (Edge.Making making : Towns.ALL) {
            for (int seed : new int[] {0, -1, Integer.MIN_VALUE, Integer.MAX_VALUE}) {
                Edge.bounds(making, "year", (x, n) -> x.year(seed, n[0], n[1]), Check.BAD, Edge.range(0, 8), Edge.range(0, 1));
                Edge.asks(making, "year", YEAR, seed, 8, 0);
                Edge.asks(making, "year", YEAR, seed, 8, 1);
            }
        }
    }
}
