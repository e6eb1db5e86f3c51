/** Promises 13 to 19 at their edges, sentence by sentence: coat, stands, neat, naked, longest, splits, best. */
public final class EdgesOfDaysTest {
    private static final String SORTS = "msa";
    private static final String EIGHT_TIMES_ZERO = "m0;s0;a0;m0;s0;a0;m0;s0";

    public static void main(String[] args) {
        sizeAtFirst();
        madeLonger();
        madeOnItsDay();
        whichAreKept();
        towardsTheSize();
        whichAreBroken();
        dueAheadOfMade();
        brokenShorter();
        brokenAtNothing();
        lies();
        lettings();
        oneBehindTheOther();
        allRoomsFull();
        ninetyNineAtMost();
        ninetyNineByLettings();
        fits();
        splitsByThen();
        behindADay();
        coatRefused();
        standsAtEachDay();
        neat();
        naked();
        longest();
        splits();
        best();
        Edge.end(13, 19);
    }

    private static void length(PromiseTailor x, String what, int day, int want) {
        Edge.due(what + ", behind DAY " + day, x.coat(day, 0, 0), want);
    }

    private static int longer(int sort, int great) {
        return sort == 0 ? great / 2 : sort == 1 ? 2 * great : great;
    }

    private static char day(int day) {
        return (char) ('a' + day);
    }

    private static void sizeAtFirst() {
        Edge.sentence(13, "COATS are as long as SIZE at first.");
        for (int size = 0; size <= 9; size++) {
            for (int sort = 0; sort < 3; sort++) {
                PromiseTailor x = Check.town("" + SORTS.charAt(sort) + size, "a9xx");
                length(x, "SIZE " + size, 0, size);
                length(x, "SIZE " + size, 22, size);
            }
        }
    }

    private static void madeLonger() {
        Edge.sentence(13, "by how GREAT they are, of a suitor by twice as much, of one that is modest by half (cut)");
        for (int great = 1; great <= 9; great++) {
            for (int sort = 0; sort < 3; sort++) {
                PromiseTailor x = Check.town(SORTS.charAt(sort) + "3", "a" + great + "ax");
                length(x, great + " of " + SORTS.charAt(sort), 0, 3 + longer(sort, great));
            }
        }
        PromiseTailor ones = Check.town("m3", "a1ax;a1ax;a3ax;a3ax");
        length(ones, "each half is cut by itself", 0, 5);
    }

    private static void madeOnItsDay() {
        Edge.sentence(13, "PROMISES MADE on it, as told, make the COAT of whose they are longer");
        for (int day = 0; day < 24; day++) {
            PromiseTailor x = Check.town("a3;a3", "b5" + day(day) + (day == 0 ? 'x' : 'a'));
            if (day > 0) {
                Edge.due("ahead of DAY " + day, x.coat(day - 1, 1, 0), 3);
            }
            Edge.due("behind DAY " + day, x.coat(day, 1, 0), 8);
            length(x, "the other's", day, 3);
        }
        PromiseTailor eighth = Check.town(EIGHT_TIMES_ZERO, "h4ax");
        Edge.due("of PERSON 7", eighth.coat(0, 7, 0), 8);
        Edge.due("of PERSON 6", eighth.coat(0, 6, 0), 0);
    }

    private static void whichAreKept() {
        Edge.sentence(13, "a PROMISE that is there, was MADE by then, was neither KEPT nor BROKEN, is KEPT");
        PromiseTailor x = Check.town("a0", "a4cx");
        x.keeping(1, 0);
        length(x, "a KEEPING ahead of the MAKING", 2, 4);
        x.keeping(2, 1);
        length(x, "a KEEPING of a PROMISE that is not there", 2, 4);
        x.keeping(2, 0);
        length(x, "a KEEPING on the DAY of the MAKING", 2, 0);
        PromiseTailor twice = Check.town("a0", "a4ax;a4ax");
        twice.keeping(1, 0);
        twice.keeping(1, 0);
        length(twice, "KEPT twice on a DAY", 1, 4);
        twice.keeping(2, 0);
        length(twice, "KEPT once more", 2, 4);
        twice.keeping(23, 1);
        length(twice, "the other on the last DAY", 23, 0);
        PromiseTailor broken = Check.town("m9", "a9ab;a9ax");
        broken.keeping(2, 0);
        length(broken, "BROKEN already", 2, 13);
        PromiseTailor ofNobody = Check.town("a0", "b4ax");
        ofNobody.keeping(3, 0);
        length(ofNobody, "of one that there is not", 3, 0);
        Edge.due("it is not KEPT", ofNobody.stands(23, 0), 0);
        Check.typeAll(ofNobody, 0, ";a0");
        Edge.due("it is, as soon as there is one", ofNobody.stands(3, 0), 2);
    }

    private static void towardsTheSize() {
        Edge.sentence(13, "the COAT goes towards the SIZE by how GREAT it is, but no farther than it is there");
        for (int off = -5; off <= 9; off++) {
            // SIZE 5, behind the MAKING of 4 on DAY 1 it is off by so much
            int ahead = off - 4;
            PromiseTailor x = Check.town("a5", "a4bx");
            if (ahead < 0) {
                x.lie(0, 0, -ahead);
            } else if (ahead > 0) {
                x.letting(0, 0, ahead);
            }
            x.keeping(2, 0);
            int made = Math.max(0, 5 + ahead) + 4;
            length(x, "made", 1, made);
            int over = made - 5;
            length(x, "off by " + over, 2, Math.abs(over) <= 4 ? 5 : over > 0 ? made - 4 : made + 4);
        }
        PromiseTailor below = Check.town("a9", "a4bx;a1bx");
        below.lie(0, 0, 9);
        below.keeping(2, 1);
        below.keeping(3, 0);
        length(below, "far below", 1, 5);
        length(below, "one nearer", 2, 6);
        length(below, "no farther than SIZE", 3, 9);
        PromiseTailor exact = Check.town("a8", "a4bx");
        exact.lie(0, 0, 9);
        exact.keeping(1, 0);
        length(exact, "from 4 to 8 by 4", 1, 8);
        PromiseTailor one = Check.town("a9", "a4bx");
        one.lie(0, 0, 9);
        one.keeping(1, 0);
        length(one, "from 4 towards 9 by 4", 1, 8);
        PromiseTailor suitor = Check.town("s2", "a4ax");
        suitor.keeping(0, 0);
        length(suitor, "of a suitor by how GREAT alone", 0, 6);
        PromiseTailor modest = Check.town("m2", "a4ax");
        modest.letting(0, 0, 5);
        modest.keeping(1, 0);
        length(modest, "of a modest one by how GREAT", 1, 5);
    }

    private static void whichAreBroken() {
        Edge.sentence(13, "PROMISES that are DUE on it, by numbers, that were MADE by then, and not KEPT, are BROKEN");
        PromiseTailor atOnce = Check.town("s5", "a4dd");
        length(atOnce, "DUE on the DAY of the MAKING", 3, 5);
        Edge.due("it SPLITS", atOnce.coat(3, 0, 2), 1);
        for (int kept = 5; kept <= 7; kept++) {
            PromiseTailor x = Check.town("s5", "a4ag");
            x.keeping(kept, 0);
            Edge.due("DUE on DAY 6, KEPT on DAY " + kept, x.stands(23, 0), kept <= 6 ? 2 : 3);
            length(x, "KEPT on DAY " + kept, 23, kept <= 6 ? 9 : 5);
            Edge.due("SPLITS", x.coat(23, 0, 2), kept <= 6 ? 0 : 1);
        }
        PromiseTailor last = Check.town("s5", "a4ax");
        length(last, "DUE on DAY 23", 22, 13);
        length(last, "DUE on DAY 23", 23, 5);
        PromiseTailor keptLate = Check.town("s5", "a4ax");
        keptLate.keeping(23, 0);
        length(keptLate, "KEPT on DAY 23", 23, 9);
        PromiseTailor ten = Check.town("a9", "a1ab;a1ab;a1ab;a1ab;a1ab;a1ab;a1ab;a1ab;a1ab;a1ab");
        length(ten, "ten MADE", 0, 19);
        length(ten, "ten BROKEN", 1, 0);
        Edge.due("ten SPLITS", ten.coat(1, 0, 2), 10);
    }

    private static void dueAheadOfMade() {
        Edge.sentence(13, "(One DUE ahead of the DAY on which it is MADE is never BROKEN.)");
        for (int made = 1; made < 24; made++) {
            PromiseTailor x = Check.town("s5", "a4" + day(made) + day(made - 1));
            length(x, "MADE on DAY " + made + ", DUE a DAY ahead", 23, 13);
            Edge.due("no SPLITS", x.coat(23, 0, 2), 0);
            Edge.due("it is open", x.stands(23, 0), 1);
            PromiseTailor same = Check.town("s5", "a4" + day(made) + day(made));
            length(same, "MADE and DUE on DAY " + made, made, 5);
            Edge.due("a SPLIT", same.coat(23, 0, 2), 1);
        }
        PromiseTailor first = Check.town("s5", "a4xa");
        Edge.due("MADE on the last, DUE on the first", first.stands(23, 0), 1);
        first.keeping(23, 0);
        Edge.due("it may be KEPT", first.stands(23, 0), 2);
    }

    private static void brokenShorter() {
        Edge.sentence(13, "the COAT becomes shorter by as much as MADE longer, of an alderman by 2 more, 0 at least, and SPLITS");
        for (int great = 1; great <= 9; great++) {
            for (int size = 0; size <= 9; size++) {
                for (int sort = 0; sort < 3; sort++) {
                    PromiseTailor x = Check.town("" + SORTS.charAt(sort) + size, "a" + great + "bc");
                    length(x, "MADE", 1, size + longer(sort, great));
                    length(x, "BROKEN", 2, sort == 2 ? Math.max(0, size - 2) : size);
                    Edge.due("SPLITS ahead", x.coat(1, 0, 2), 0);
                    Edge.due("SPLITS", x.coat(2, 0, 2), 1);
                }
            }
        }
    }

    private static void brokenAtNothing() {
        Edge.sentence(13, "0 at least, and SPLITS");
        PromiseTailor x = Check.town("a0;s2;m5", "a9ac;b9ac;c1ac");
        x.lie(1, 0, 9);
        x.lie(1, 1, 9);
        x.lie(1, 1, 2);
        length(x, "0 long already", 1, 0);
        length(x, "BROKEN", 2, 0);
        Edge.due("it SPLITS all the same", x.coat(2, 0, 2), 1);
        Edge.due("9 long, shorter by 18", x.coat(2, 1, 0), 0);
        Edge.due("shorter by a half that is 0", x.coat(2, 2, 0), 5);
        Edge.due("it SPLITS all the same", x.coat(2, 2, 2), 1);
        PromiseTailor exact = Check.town("a1", "a9ac;a1dd");
        exact.letting(1, 0, 1);
        length(exact, "11 long", 1, 11);
        length(exact, "exactly 0", 2, 0);
        length(exact, "1 longer, 3 shorter", 3, 0);
    }

    private static void lies() {
        Edge.sentence(13, "Then LIES, as told, make it shorter, 0 at least");
        for (int much = 1; much <= 9; much++) {
            PromiseTailor x = Check.town("a5", "");
            x.lie(0, 0, much);
            length(x, "a LIE by " + much, 0, Math.max(0, 5 - much));
        }
        PromiseTailor more = Check.town("a5", "a9bb");
        more.lie(0, 0, 9);
        more.lie(0, 0, 9);
        more.letting(2, 0, 1);
        length(more, "no less than 0", 0, 0);
        length(more, "MADE and BROKEN", 1, 0);
        length(more, "nothing is owed", 2, 1);
        PromiseTailor behind = Check.town("s0", "a9aa");
        behind.lie(0, 0, 9);
        length(behind, "behind the BREAKING", 0, 0);
        PromiseTailor kept = Check.town("a5", "a3ax");
        kept.lie(0, 0, 2);
        kept.keeping(0, 0);
        length(kept, "behind the KEEPING", 0, 3);
        PromiseTailor nobody = Check.town("m5", "");
        nobody.lie(0, 1, 9);
        length(nobody, "of one that there is not", 0, 5);
    }

    private static void lettings() {
        Edge.sentence(13, "then LETTINGS, as told, longer.");
        PromiseTailor x = Check.town("a2", "");
        x.letting(3, 0, 4);
        x.lie(3, 0, 9);
        length(x, "behind the LIES", 3, 4);
        PromiseTailor broken = Check.town("a2", "a9aa");
        broken.letting(0, 0, 1);
        length(broken, "behind the BREAKING", 0, 1);
        PromiseTailor kept = Check.town("a2", "a9ax");
        kept.letting(0, 0, 9);
        kept.keeping(0, 0);
        length(kept, "behind the KEEPING", 0, 11);
        for (int much = 1; much <= 9; much++) {
            PromiseTailor y = Check.town("a0", "");
            y.letting(0, 0, much);
            length(y, "LET OUT by " + much, 0, much);
        }
        PromiseTailor nobody = Check.town("m5", "");
        nobody.letting(0, 1, 9);
        length(nobody, "of one that there is not", 0, 5);
    }

    /** Whatever is told first: MADE, KEPT, BROKEN, LIES, LETTINGS. */
    private static void oneBehindTheOther() {
        Edge.sentence(13, "On a DAY, one behind the other");
        for (int day = 0; day < 24; day++) {
            String here = "" + day(day) + day(day);
            PromiseTailor x = new PromiseTailor();
            x.letting(day, 0, 2);
            x.lie(day, 0, 9);
            x.keeping(day, 1);
            Check.typeAll(x, 1, "a5" + here + ";a9" + here);
            Check.typeAll(x, 0, "a3");
            // MADE: 17, KEPT: 8, BROKEN: 1, the LIE: 0, the LETTING: 2
            length(x, "all on one DAY", day, 2);
            Edge.due("the first is BROKEN", x.stands(day, 0), 3);
            Edge.due("the second is KEPT", x.stands(day, 1), 2);
            x.back(2);
            length(x, "without the LETTING", day, 0);
            x.back(1);
            length(x, "without the LIE", day, 1);
            x.back(0);
            // 17 less 7 less 11
            length(x, "without the KEEPING", day, 0);
        }
    }

    private static void allRoomsFull() {
        Edge.sentence(13, "On a DAY, one behind the other");
        PromiseTailor x = Towns.allComesToPass();
        int[] days = {0, 4, 5, 9, 10, 11, 12, 22, 23};
        int[] two = {15, 15, 12, 12, 8, 8, 8, 8, 3};
        int[] next = {12, 12, 9, 9, 5, 5, 6, 6, 6};
        int[] seventh = {12, 12, 9, 9, 9, 9, 10, 10, 10};
        int[] last = {12, 12, 9, 9, 9, 9, 11, 11, 11};
        for (int i = 0; i < days.length; i++) {
            for (int person = 0; person < 8; person++) {
                int want = person < 2 ? two[i] : person < 6 ? next[i] : person == 6 ? seventh[i] : last[i];
                Edge.due(Edge.told("coat", days[i], person, 0), x.coat(days[i], person, 0), want);
            }
        }
        Edge.due("SPLITS in all", x.splits(), 2);
    }

    private static void ninetyNineAtMost() {
        Edge.sentence(13, "A COAT is 99 long at most, always.");
        PromiseTailor x = Check.town("s9", "a9ax;a9ax;a9ax;a9ax;a9ax;a1bx;a9cc");
        length(x, "9 and five times 18", 0, 99);
        length(x, "2 more", 1, 99);
        length(x, "18 more and 18 less", 2, 81);
        PromiseTailor even = Check.town("s8", "a9ax;a9ax;a9ax;a9ax;a9ax;a1bx");
        length(even, "8 and five times 18", 0, 98);
        length(even, "2 more", 1, 99);
        even.lie(2, 0, 1);
        length(even, "1 less", 2, 98);
        PromiseTailor kept = Check.town("s9", "a9ax;a9ax;a9ax;a9ax;a9ax;a9ax");
        kept.keeping(0, 0);
        length(kept, "KEPT from 99", 0, 90);
    }

    private static void ninetyNineByLettings() {
        Edge.sentence(13, "A COAT is 99 long at most, always.");
        PromiseTailor x = Check.town("a9", "a9ax;a9ax;a9ax;a9ax;a9ax;a9ax;a9ax;a9ax;a8ax");
        length(x, "9, eight times 9 and 8", 0, 89);
        x.letting(1, 0, 9);
        length(x, "LET OUT by 9", 1, 98);
        x.letting(2, 0, 1);
        length(x, "LET OUT by 1", 2, 99);
        x.letting(3, 0, 1);
        length(x, "LET OUT by 1 more", 3, 99);
        x.letting(4, 0, 9);
        x.lie(5, 0, 9);
        length(x, "LET OUT by 9 more", 4, 99);
        length(x, "9 less", 5, 90);
    }

    private static void fits() {
        Edge.sentence(13, "A COAT FITS, if it is as long as SIZE, or 1 longer.");
        for (int size = 0; size <= 9; size++) {
            for (int over = -3; over <= 3; over++) {
                PromiseTailor x = Check.town("a" + size, "");
                if (over < 0) {
                    x.lie(0, 0, -over);
                } else if (over > 0) {
                    x.letting(0, 0, over);
                }
                int long0 = Math.max(0, size + over);
                length(x, "SIZE " + size, 0, long0);
                Edge.due("SIZE " + size + ", " + long0 + " long", x.coat(0, 0, 1), long0 == size || long0 == size + 1 ? 1 : 0);
            }
        }
    }

    private static void splitsByThen() {
        Edge.sentence(13, "How long (what = 0), FITS (1: 1, 0), SPLITS by then (2).");
        PromiseTailor x = Check.town("s5;s5", "a1aa;a1ac;b1ac;a1ax");
        int[] days = {0, 1, 2, 22, 23};
        int[] first = {1, 1, 2, 2, 3};
        int[] second = {0, 0, 1, 1, 1};
        for (int i = 0; i < days.length; i++) {
            Edge.due(Edge.told("coat", days[i], 0, 2), x.coat(days[i], 0, 2), first[i]);
            Edge.due(Edge.told("coat", days[i], 1, 2), x.coat(days[i], 1, 2), second[i]);
        }
    }

    private static void behindADay() {
        Edge.sentence(13, "Behind a DAY of a PERSON: how long the COAT is; whether it FITS; how often it has SPLIT by then.");
        PromiseTailor x = Check.town("m9;s3", "b2be");
        x.letting(5, 1, 1);
        x.lie(6, 1, 2);
        int[][] due = {{3, 1, 0}, {7, 0, 0}, {7, 0, 0}, {7, 0, 0}, {3, 1, 1}, {4, 1, 1}, {2, 0, 1}, {2, 0, 1}};
        for (int day = 0; day < due.length; day++) {
            for (int what = 0; what < 3; what++) {
                Edge.due(Edge.told("coat", day, 1, what), x.coat(day, 1, what), due[day][what]);
            }
        }
    }

    private static void coatRefused() {
        Edge.sentence(13, "BAD.");
        Edge.Call coat = (x, n) -> x.coat(n[0], n[1], n[2]);
        Edge.bounds(Towns.EMPTY, "coat", coat, Check.BAD, Edge.range(0, 23), Edge.range(0, -1), Edge.range(0, 2));
        Edge.bounds(Towns.SOME, "coat", coat, Check.BAD, Edge.range(0, 23), Edge.range(0, 2), Edge.range(0, 2));
        Edge.bounds(Towns.FULL, "coat", coat, Check.BAD, Edge.range(0, 23), Edge.range(0, 7), Edge.range(0, 2));
        for (int what = 0; what < 3; what++) {
            Edge.asks(Towns.SOME, "coat", coat, 12, 1, what);
            Edge.asks(Towns.FULL, "coat", coat, 23, 7, what);
        }
    }

    private static void standsAtEachDay() {
        Edge.sentence(14, "What became of a PROMISE.");
        Edge.due("of one that is open", Check.town("a5", "a1xa").stands(23, 0), 1);
        Edge.sentence(14, "0 not MADE yet (nor ever, if its PERSON is not there), 1 it is open, 2 KEPT, 3 BROKEN");
        PromiseTailor x = Check.town("a5", "a1ce;a1ce;b1aa;a1ax;h1ax");
        x.keeping(3, 1);
        x.keeping(2, 4);
        for (int day = 0; day < 24; day++) {
            Edge.due(Edge.told("stands", day, 0), x.stands(day, 0), day < 2 ? 0 : day < 4 ? 1 : 3);
            Edge.due(Edge.told("stands", day, 1), x.stands(day, 1), day < 2 ? 0 : day < 3 ? 1 : 2);
            Edge.due(Edge.told("stands", day, 2), x.stands(day, 2), 0);
            Edge.due(Edge.told("stands", day, 3), x.stands(day, 3), day < 23 ? 1 : 3);
            Edge.due(Edge.told("stands", day, 4), x.stands(day, 4), 0);
        }
        x.wipe(0);
        Edge.due("nobody is there", x.stands(23, 0), 0);
        Edge.sentence(14, "BAD.");
        Edge.Call stands = (y, n) -> y.stands(n[0], n[1]);
        Edge.bounds(Towns.EMPTY, "stands", stands, Check.BAD, Edge.range(0, 23), Edge.range(0, -1));
        Edge.bounds(Towns.SOME, "stands", stands, Check.BAD, Edge.range(0, 23), Edge.range(0, 4));
        Edge.bounds(Towns.FULL, "stands", stands, Check.BAD, Edge.range(0, 23), Edge.range(0, 9));
        Edge.asks(Towns.FULL, "stands", stands, 23, 9);
    }

    private static void neat() {
        Edge.sentence(15, "NEAT: whom it FITS, as bits.");
        PromiseTailor x = Check.town(EIGHT_TIMES_ZERO, "");
        Edge.due("all eight", x.neat(0), 255);
        x.letting(1, 7, 2);
        x.letting(2, 0, 1);
        x.letting(3, 0, 1);
        Edge.due("all but the last", x.neat(1), 127);
        Edge.due("the first is 1 longer", x.neat(2), 127);
        Edge.due("the first is 2 longer", x.neat(3), 126);
        PromiseTailor seven = Check.town("a5;a5", "a1ax");
        Edge.due("1 longer", seven.neat(22), 3);
        Edge.due("1 shorter", seven.neat(23), 2);
        Edge.due("of nobody", new PromiseTailor().neat(23), 0);
        Edge.sentence(15, "NEAT, as bits.");
        for (int bits = 0; bits < 256; bits++) {
            // those of whom nothing is promised
            StringBuilder promises = new StringBuilder();
            for (int person = 0; person < 8; person++) {
                if ((bits >> person & 1) == 0) {
                    promises.append(promises.length() == 0 ? "" : ";").append((char) ('a' + person)).append("2ax");
                }
            }
            Edge.due("of " + promises, Check.town("a9;a9;a9;a9;a9;a9;a9;a9", promises.toString()).neat(22), bits);
        }
        Edge.sentence(15, "BAD.");
        Edge.Call neat = (y, n) -> y.neat(n[0]);
        for (Edge.Making making : Towns.ALL) {
            Edge.bounds(making, "neat", neat, Check.BAD, Edge.range(0, 23));
            Edge.asks(making, "neat", neat, 23);
        }
    }

    private static void naked() {
        Edge.sentence(16, "NAKED: whose COAT is 0 long, as bits.");
        PromiseTailor x = Check.town(EIGHT_TIMES_ZERO, "");
        Edge.due("all eight", x.naked(0), 255);
        x.letting(1, 7, 1);
        x.letting(2, 0, 9);
        x.lie(3, 7, 1);
        x.lie(3, 0, 8);
        Edge.due("all but the last", x.naked(1), 127);
        Edge.due("but the first and the last", x.naked(2), 126);
        Edge.due("the last again, the first is 1 long", x.naked(3), 254);
        PromiseTailor y = Check.town("m9;s9", "");
        y.lie(23, 1, 9);
        Edge.due("ahead of the last DAY", y.naked(22), 0);
        Edge.due("behind the last DAY", y.naked(23), 2);
        Edge.due("of nobody", new PromiseTailor().naked(0), 0);
        Edge.sentence(16, "NAKED, as bits.");
        for (int bits = 0; bits < 256; bits++) {
            StringBuilder people = new StringBuilder();
            for (int person = 0; person < 8; person++) {
                people.append(person == 0 ? "m" : ";m").append(1 - (bits >> person & 1));
            }
            Edge.due("of " + people, Check.town(people.toString(), "").naked(0), bits);
        }
        Edge.sentence(16, "BAD.");
        Edge.Call naked = (z, n) -> z.naked(n[0]);
        for (Edge.Making making : Towns.ALL) {
            Edge.bounds(making, "naked", naked, Check.BAD, Edge.range(0, 23));
            Edge.asks(making, "naked", naked, 23);
        }
    }

    private static void longest() {
        Edge.sentence(17, "LONGEST: whose COAT is longest, of like ones the least");
        PromiseTailor x = Check.town(EIGHT_TIMES_ZERO, "");
        Edge.due("all are 0 long", x.longest(0), 0);
        x.letting(1, 7, 1);
        x.letting(2, 6, 1);
        x.letting(3, 6, 1);
        x.letting(4, 7, 1);
        x.letting(5, 7, 1);
        x.letting(6, 2, 9);
        Edge.due("the last alone", x.longest(1), 7);
        Edge.due("two alike", x.longest(2), 6);
        Edge.due("the one ahead", x.longest(3), 6);
        Edge.due("alike once more", x.longest(4), 6);
        Edge.due("the last by 1", x.longest(5), 7);
        Edge.due("another", x.longest(6), 2);
        Edge.due("behind the last DAY", x.longest(23), 2);
        Edge.sentence(17, "LONGEST; NONE.");
        Edge.due("of nobody", new PromiseTailor().longest(0), Check.NONE);
        Edge.due("of nobody with PROMISES", Check.town("", "a9ax").longest(23), Check.NONE);
        Edge.due("of PEOPLE with a FAULT", Check.town("m9;", "").longest(0), Check.NONE);
        Edge.sentence(17, "BAD.");
        Edge.Call longest = (y, n) -> y.longest(n[0]);
        for (Edge.Making making : Towns.ALL) {
            Edge.bounds(making, "longest", longest, Check.BAD, Edge.range(0, 23));
            Edge.asks(making, "longest", longest, 23);
        }
    }

    private static void splits() {
        Edge.sentence(18, "SPLITS in all.");
        Edge.due("of nothing", new PromiseTailor().splits(), 0);
        Edge.due("of nobody", Check.town("", "a9ax").splits(), 0);
        Edge.due("of no PROMISES", Check.town("a5", "").splits(), 0);
        Edge.due("on the first DAY", Check.town("a5", "a1aa").splits(), 1);
        Edge.due("on the last DAY", Check.town("a5", "a1xx").splits(), 1);
        Edge.due("never", Check.town("a5", "a1xw").splits(), 0);
        PromiseTailor ten = Check.town("a0;m0;s0", "a1aa;b1ab;c1ac;a1ad;b1ae;c1af;a1ag;b1ah;c1ai;a1xx");
        Edge.due("ten", ten.splits(), 10);
        ten.keeping(23, 9);
        Edge.due("one KEPT", ten.splits(), 9);
        ten.keeping(1, 0);
        Edge.due("one KEPT too late", ten.splits(), 9);
        for (Edge.Making making : Towns.ALL) {
            Edge.asks(making, "splits", (x, n) -> x.splits());
        }
    }

    private static void best() {
        Edge.sentence(19, "BEST: the DAY behind which it FITS most PEOPLE, of like ones the least");
        PromiseTailor always = Check.town("a5;a5", "");
        Edge.due("all DAYS are alike", always.best(), 0);
        PromiseTailor never = Check.town("a5", "");
        never.lie(0, 0, 1);
        Edge.due("it never FITS: all DAYS are alike", never.best(), 0);
        PromiseTailor last = Check.town("a5;a5", "");
        last.lie(0, 0, 1);
        last.letting(23, 0, 1);
        Edge.due("the last DAY alone", last.best(), 23);
        last.back(2);
        last.letting(22, 0, 2);
        Edge.due("the two last DAYS", last.best(), 22);
        last.lie(22, 1, 1);
        Edge.due("one on each DAY", last.best(), 0);
        Edge.sentence(19, "BEST; NONE.");
        for (int day = 0; day < 24; day++) {
            PromiseTailor x = Check.town("a5", "");
            x.lie(0, 0, 9);
            x.letting(day, 0, 6);
            Edge.due("it FITS from DAY " + day + " on", x.best(), day);
            x.undo(0);
            Edge.due("nobody is there now", x.best(), Check.NONE);
            Check.typeAll(x, 0, "4");
            Edge.due("6 long, of SIZE 4, and never FITS", x.best(), 0);
        }
        Edge.sentence(19, "of like ones the least; NONE: nobody is there.");
        Edge.due("of nothing", new PromiseTailor().best(), Check.NONE);
        Edge.due("of nobody with PROMISES", Check.town("", "a9ax").best(), Check.NONE);
        Edge.due("of PEOPLE with a FAULT", Check.town("m9;", "").best(), Check.NONE);
        for (Edge.Making making : Towns.ALL) {
            Edge.asks(making, "best", (x, n) -> x.best());
        }
    }
}
