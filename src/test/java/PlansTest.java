/** Promises 20 to 23: swear, keep, due, hush. */
public final class PlansTest {
    public static void main(String[] args) {
        swear();
        swearIsAPromise();
        keep();
        keepWhateverRoom();
        due();
        hush();
        plansLeaveNothing();
        Check.end();
    }

    private static void swear() {
        PromiseTailor x = Check.town("m9;s9;a9;a9", "c2bd");
        x.lie(1, 0, 4);
        x.lie(1, 1, 4);
        x.lie(5, 3, 9);
        x.lie(5, 3, 9);
        // a modest one needs 4 or 5: 8; a suitor 2: 4, an alderman 1 or none
        Check.due("swear(0, 0)", x.swear(0, 0), 1);
        Check.due("swear(0, 1)", x.swear(0, 1), 8);
        Check.due("swear(1, 1)", x.swear(1, 1), 2);
        Check.due("swear(1, 0)", x.swear(1, 0), Check.NONE);
        Check.due("swear(2, 0)", x.swear(2, 0), 1);
        Check.due("swear(2, 1)", x.swear(2, 1), Check.NONE);
        // broken: 9 + 2 - 4 = 7
        Check.due("swear(2, 3)", x.swear(2, 3), 2);
        Check.due("swear(3, 4)", x.swear(3, 4), 1);
        // 0 at least: 9 + g - 18
        Check.due("swear(3, 5)", x.swear(3, 5), Check.NONE);
        Check.due("swear(4, 0)", x.swear(4, 0), Check.BAD);
        Check.due("swear(-1, 0)", x.swear(-1, 0), Check.BAD);
        Check.due("swear(0, -1)", x.swear(0, -1), Check.BAD);
        Check.due("swear(0, 24)", x.swear(0, 24), Check.BAD);
        PromiseTailor most = Check.town("a9", "");
        most.lie(0, 0, 9);
        Check.due("swear 9", most.swear(0, 5), 9);
        most.lie(1, 0, 1);
        Check.due("swear no more than 9", most.swear(0, 5), Check.NONE);
        PromiseTailor full = Check.town("a9", "a1xx;a1xx;a1xx;a1xx;a1xx;a1xx;a1xx;a1xx;a1xx;a1xx");
        full.lie(0, 0, 7);
        Check.due("swear behind ten", full.swear(0, 5), 7);
        // ten made and broken on day 23: 9 + g - 7 + 10 - 30
        Check.due("swear behind ten, broken", full.swear(0, 23), Check.NONE);
    }

    private static void swearIsAPromise() {
        // the one more is promise 1, so a keeping of promise 1 keeps it
        PromiseTailor x = Check.town("a2", "a1xx");
        x.keeping(3, 1);
        x.lie(5, 0, 2);
        x.letting(2, 0, 3);
        // behind day 2: 2 + g + 3; kept on day 3: towards 2 by g
        Check.due("swear(0, 2)", x.swear(0, 2), Check.NONE);
        Check.due("swear(0, 3)", x.swear(0, 3), Check.NONE);
        // 5, then 3
        Check.due("swear(0, 5)", x.swear(0, 5), 1);
    }

    private static void keep() {
        PromiseTailor x = Check.town("s5;a5", "a4ax;a9ax;b5ac");
        // a: 5 + 26 - 26 = 5, b: 10 - 7 = 3
        Check.due("keep(1, 0)", x.keep(1, 0), 2);
        Check.due("keep(1, 1)", x.keep(1, 1), 2);
        // too late for b; of like ones the least: 0: 5 + 26 - 4 - 18 = 9, 1: 5 + 26 - 9 - 8 = 14, 2: as is
        Check.due("keep(4, 0)", x.keep(4, 0), 2);
        Check.due("keep(4, 1)", x.keep(4, 1), 1);
        PromiseTailor alike = Check.town("a5", "a2ax;a2ax");
        alike.keeping(4, 0);
        alike.keeping(4, 1);
        Check.due("of like ones the least", alike.keep(4, 0), 0);
        Check.due("of like ones the least", alike.keep(4, 1), 1);
        PromiseTailor none = Check.town("a5", "");
        Check.due("keep of no promises", none.keep(0, 0), Check.NONE);
        Check.due("keep of no promises", none.keep(0, 1), Check.NONE);
        Check.due("keep(-1, 0)", none.keep(-1, 0), Check.BAD);
        Check.due("keep(24, 0)", none.keep(24, 0), Check.BAD);
        Check.due("keep(0, 2)", none.keep(0, 2), Check.BAD);
        Check.due("keep(0, -1)", none.keep(0, -1), Check.BAD);
    }

    private static void keepWhateverRoom() {
        PromiseTailor x = Check.town("a5", "a5ab;a4ax");
        for (int i = 0; i < 8; i++) {
            x.keeping(2, 1);
        }
        // 0 kept: 9, then 5; else broken: 7, then 5
        Check.due("keep with no room", x.keep(1, 0), 0);
        x.lie(3, 0, 2);
        x.letting(4, 0, 3);
        Check.due("keep with no room, how many", x.keep(1, 1), 1);
        Check.due("keepings stay", x.count(4), 8);
        Check.due("promise 0 is broken", x.stands(23, 0), 3);
        PromiseTailor behind = Check.town("a9;a0", "a1bx;b9ba");
        behind.keeping(1, 0);
        Check.due("another one", behind.keep(1, 0), 1);
        Check.due("another one", behind.keep(1, 1), 2);
    }

    private static void due() {
        PromiseTailor x = Check.town("a9;a9", "a1ce;b1dd;h1aa");
        // ahead of its making it is never broken
        Check.due("due(0, 0)", x.due(0, 0), 0);
        Check.due("due(0, 1)", x.due(0, 1), 1);
        Check.due("due(2, 0) of nobody", x.due(2, 0), 0);
        Check.due("due(2, 1) of nobody", x.due(2, 1), 2);
        PromiseTailor first = Check.town("a9", "a1ac;a1ac");
        Check.due("made on day 0: always broken", first.due(0, 0), 0);
        Check.due("made on day 0: always broken", first.due(0, 1), 2);
        first.keeping(5, 0);
        Check.due("due when it is kept", first.due(0, 0), 5);
        Check.due("due when it is kept", first.due(0, 1), 1);
        first.keeping(4, 1);
        Check.due("due when it is kept", first.due(1, 0), 4);
        Check.due("it is as it was", first.splits(), 2);
        Check.due("due(2, 0)", first.due(2, 0), Check.BAD);
        Check.due("due(-1, 0)", first.due(-1, 0), Check.BAD);
        Check.due("due(0, 2)", first.due(0, 2), Check.BAD);
        Check.due("due(0, -1)", first.due(0, -1), Check.BAD);
    }

    private static void hushed(String town, PromiseTailor x, int many, int first, int second) {
        Check.due(town + ": hush(NONE)", x.hush(Check.NONE), many);
        Check.due(town + ": hush(0)", x.hush(0), first);
        Check.due(town + ": hush(1)", x.hush(1), second);
        Check.due(town + ": hush(-2)", x.hush(-2), Check.BAD);
        Check.due(town + ": hush(2)", x.hush(2), Check.BAD);
    }

    private static void hush() {
        hushed("nobody", new PromiseTailor(), 0, Check.NONE, Check.NONE);
        hushed("no lies, naked", Check.town("m0", ""), Check.NONE, Check.NONE, Check.NONE);
        PromiseTailor x = Check.town("m5;m7", "");
        x.lie(0, 0, 2);
        hushed("nobody is naked", x, 0, Check.NONE, Check.NONE);
        x.lie(1, 0, 2);
        x.lie(2, 0, 2);
        hushed("the least of three", x, 1, 0, Check.NONE);
        x.lie(3, 1, 9);
        hushed("one of each", x, 2, 0, 3);
        x.lie(4, 0, 4);
        // of 2, 2, 2 and 4 by 5: the 4 and one more would leave 4 of 6, the 4 alone 6: 5 - 6 is naked
        hushed("two of one and one of the other are too many", x, Check.NONE, Check.NONE, Check.NONE);
        x.back(1);
        x.letting(23, 1, 1);
        hushed("a letting covers", x, 1, 0, Check.NONE);
        PromiseTailor last = Check.town("m9", "");
        last.lie(0, 0, 1);
        last.lie(0, 0, 9);
        hushed("the greater alone", last, 1, 1, Check.NONE);
        last.lie(0, 0, 8);
        last.lie(0, 0, 7);
        // without 9 and 8: 1 + 7
        hushed("a pair", last, 2, 1, 2);
        last.lie(0, 0, 1);
        Check.due("still as they were", last.coat(0, 0, 0), 0);
        hushed("no pair", last, Check.NONE, Check.NONE, Check.NONE);
    }

    private static void plansLeaveNothing() {
        PromiseTailor x = Check.town("m4;s3;a5", "a9ad;b4bf;c7cc");
        x.keeping(2, 1);
        x.lie(3, 2, 5);
        x.letting(4, 0, 1);
        int[] before = state(x);
        x.swear(0, 7);
        x.keep(2, 0);
        x.due(1, 0);
        x.hush(0);
        x.never();
        x.was(1, 0);
        x.was(1, 1);
        x.ask(1);
        x.word(7, 1, 9, 0);
        x.year(5, 8, 0);
        int[] behind = state(x);
        for (int i = 0; i < before.length; i++) {
            Check.due("state " + i + " behind plans", behind[i], before[i]);
        }
    }

    private static int[] state(PromiseTailor x) {
        int[] all = new int[24 * 9 + 18];
        int n = 0;
        for (int day = 0; day < 24; day++) {
            for (int i = 0; i < 3; i++) {
                all[n++] = x.coat(day, i, 0);
                all[n++] = x.coat(day, i, 2);
                all[n++] = x.stands(day, i);
            }
        }
        for (int i = 0; i < 3; i++) {
            all[n++] = x.promise(i, 3);
            all[n++] = x.person(i, 0);
            all[n++] = x.person(i, 1);
        }
        for (int what = 0; what <= 8; what++) {
            all[n++] = x.count(what);
        }
        return all;
    }
}
