import java.util.ArrayList;
import java.util.List;

/** Promises 1 to 7 at their edges, sentence by sentence: a new object, type, wipe, undo, fault, person, promise. */
public final class EdgesOfTextsTest {
    private static final String EIGHT = "m0;s5;a9;m1;s2;a3;m4;s6";
    private static final String TEN = "a1ax;b2bw;c3cv;d4du;e5et;f6fs;g7gr;h8hq;a9ip;b1jo";

    public static void main(String[] args) {
        newObject();
        typeBytes();
        typeFull();
        wipe();
        undo();
        faultByPlace();
        faultOfNoneAndOfTheUnended();
        faultOfOneTooMany();
        signsBetween();
        asIfEmpty();
        person();
        promise();
        Edge.end(1, 7);
    }

    private static void newObject() {
        Edge.sentence(1, "No PEOPLE, no PROMISES");
        PromiseTailor x = new PromiseTailor();
        for (int what = 0; what <= 8; what++) {
            Edge.due("count(" + what + ")", x.count(what), 0);
        }
        Edge.due("person(0, 0)", x.person(0, 0), Check.BAD);
        Edge.due("promise(0, 0)", x.promise(0, 0), Check.BAD);
        Edge.due("longest(0)", x.longest(0), Check.NONE);
        Edge.due("keep(0, 0)", x.keep(0, 0), Check.NONE);
        Edge.sentence(1, "all SHEETS are LOST");
        for (int s = 0; s < 4; s++) {
            Edge.due("lose(" + s + ")", x.lose(s), Check.NULL);
        }
        Edge.sentence(1, "No PEOPLE, no PROMISES; all SHEETS are LOST.");
        PromiseTailor full = Towns.FULL.make();
        PromiseTailor beside = new PromiseTailor();
        Edge.same("a new object beside a full one", Edge.all(beside), Edge.all(new PromiseTailor()));
        Edge.same("a full one beside others", Edge.all(full), Edge.all(Towns.FULL.make()));
    }

    private static void typeBytes() {
        Edge.sentence(2, "A byte (0 to 255) comes behind a text: how many.");
        for (Edge.Making making : Towns.ALL) {
            Edge.bounds(making, "type", (x, n) -> x.type(n[0], n[1]), Check.BAD, Edge.range(0, 1), Edge.range(0, 255));
        }
        for (int b = 0; b <= 255; b++) {
            PromiseTailor x = new PromiseTailor();
            Edge.due(Edge.told("type", 0, b), x.type(0, b), 1);
            Edge.due(Edge.told("type", 1, b), x.type(1, b), 1);
            Edge.due(Edge.told("type", 0, b), x.type(0, b), 2);
        }
    }

    private static void typeFull() {
        Edge.sentence(2, "PEOPLE are a text of up to 23 bytes (text 0)");
        typeUpTo(0, 23);
        Edge.sentence(2, "PROMISES are a text of up to 49 bytes (text 1)");
        typeUpTo(1, 49);
        Edge.sentence(2, "BAD; FULL.");
        Edge.Call type = (x, n) -> x.type(n[0], n[1]);
        Edge.refused(Towns.FULL, "type", type, Check.FULL, 0, ';');
        Edge.refused(Towns.FULL, "type", type, Check.FULL, 1, ';');
        Edge.refused(Towns.FULL, "type", type, Check.BAD, 0, 256);
        Edge.refused(Towns.FULL, "type", type, Check.BAD, 1, -1);
        Edge.refused(Towns.FULL, "type", type, Check.BAD, 2, ';');
    }

    private static void typeUpTo(int text, int room) {
        PromiseTailor x = new PromiseTailor();
        for (int i = 1; i <= room; i++) {
            Edge.due("byte " + i, x.type(text, 'm'), i);
        }
        Edge.due("one more", x.type(text, 'm'), Check.FULL);
        Edge.due("and once more", x.type(text, 0), Check.FULL);
        Edge.due("its bytes", x.count(2 + text), room);
        Edge.due("the other text has room", x.type(1 - text, 'm'), 1);
        Edge.due("undo", x.undo(text), room - 1);
        Edge.due("there is room again", x.type(text, 'm'), room);
        Edge.due("and no more", x.type(text, 'm'), Check.FULL);
    }

    private static void wipe() {
        Edge.sentence(3, "A text is empty: how many bytes it had.");
        PromiseTailor x = new PromiseTailor();
        Edge.due("wipe(0) of an empty text", x.wipe(0), 0);
        Edge.due("wipe(1) of an empty text", x.wipe(1), 0);
        x.type(0, 'x');
        Edge.due("wipe(0) of a byte with a fault", x.wipe(0), 1);
        Edge.due("fault(0)", x.fault(0), Check.NONE);
        PromiseTailor full = Towns.FULL.make();
        Edge.due("wipe(0) of a full text", full.wipe(0), 23);
        Edge.due("people", full.count(0), 0);
        Edge.due("bytes of text 0", full.count(2), 0);
        Edge.due("promises", full.count(1), 10);
        Edge.due("bytes of text 1", full.count(3), 49);
        Edge.due("wipe(1) of a full text", full.wipe(1), 49);
        Edge.due("promises", full.count(1), 0);
        Edge.due("wipe(1) again", full.wipe(1), 0);
        Edge.due("a wiped text has room", full.type(1, 'a'), 1);
        Edge.due("keepings stay", full.count(4), 8);
        Edge.sentence(3, "BAD.");
        for (Edge.Making making : Towns.ALL) {
            Edge.bounds(making, "wipe", (y, n) -> y.wipe(n[0]), Check.BAD, Edge.range(0, 1));
        }
    }

    private static void undo() {
        Edge.sentence(4, "The last byte of a text is undone: how many are left.");
        PromiseTailor x = Check.town("m1", "a1bc");
        Edge.due("undo(1)", x.undo(1), 3);
        Edge.due("undo(0)", x.undo(0), 1);
        x.type(0, '7');
        x.type(1, 'd');
        Edge.due("the last byte of text 0 is another", x.person(0, 1), 7);
        Edge.due("the last byte of text 1 is another", x.promise(0, 3), 3);
        Edge.due("the one ahead stays", x.promise(0, 2), 1);
        Edge.due("undo(0)", x.undo(0), 1);
        Edge.due("undo(0) of one byte", x.undo(0), 0);
        Edge.due("undo(0) of none", x.undo(0), Check.NOT);
        Edge.due("undo(1)", x.undo(1), 3);
        PromiseTailor full = Towns.FULL.make();
        Edge.due("undo(0) of a full text", full.undo(0), 22);
        Edge.due("undo(1) of a full text", full.undo(1), 48);
        PromiseTailor two = Check.town("m1;s2", "a1bc;b2de");
        int[] people = {0, 0, 1, 0, 0};
        for (int left = 4; left >= 0; left--) {
            Edge.due("undo(0)", two.undo(0), left);
            Edge.due("how many PEOPLE are left", two.count(0), people[left]);
        }
        for (int left = 8; left >= 0; left--) {
            Edge.due("undo(1)", two.undo(1), left);
            Edge.due("how many PROMISES are left", two.count(1), left == 4 ? 1 : 0);
        }
        Edge.sentence(4, "NOT: it is empty.");
        Edge.Call undo = (y, n) -> y.undo(n[0]);
        Edge.refused(Towns.EMPTY, "undo", undo, Check.NOT, 0);
        Edge.refused(Towns.EMPTY, "undo", undo, Check.NOT, 1);
        Edge.refused(() -> Check.town("m1", ""), "undo", undo, Check.NOT, 1);
        Edge.refused(() -> Check.town("", "a1bc"), "undo", undo, Check.NOT, 0);
        Edge.sentence(4, "BAD; NOT");
        for (Edge.Making making : Towns.ALL) {
            Edge.bounds(making, "undo", undo, Check.BAD, Edge.range(0, 1));
        }
        Edge.refused(Towns.EMPTY, "undo", undo, Check.BAD, 2);
    }

    private static boolean goesOn(int text, int place, int b) {
        if (text == 0) {
            return place % 3 == 0 ? b == 'm' || b == 's' || b == 'a' : place % 3 == 1 ? b >= '0' && b <= '9' : b == ';';
        }
        switch (place % 5) {
            case 0:
                return b >= 'a' && b <= 'h';
            case 1:
                return b >= '1' && b <= '9';
            case 4:
                return b == ';';
            default:
                return b >= 'a' && b <= 'x';
        }
    }

    /** Every byte at every place of a text that is well but for it. */
    private static void faultByPlace() {
        Edge.sentence(5, "The FAULT of a text is the place of the first byte with which it cannot go on");
        everyByte(0, EIGHT);
        everyByte(1, TEN);
        fault(0, "x0;x0", 0);
        fault(0, "m0;sx;x", 4);
        fault(1, "a1ay;i1aa", 3);
        fault(1, "a1ax,i", 4);
        Edge.sentence(5, "m (modest), s (a suitor) or a (an alderman), and a figure 0 to 9");
        for (String well : new String[] {"m0", "s0", "a0", "m9", "s9", "a9"}) {
            fault(0, well, Check.NONE);
        }
        for (String wrong : new String[] {"l0", "n0", "r0", "t0", "b0", "`0", "M0", "0m", " m0"}) {
            fault(0, wrong, 0);
        }
        fault(0, "m/", 1);
        fault(0, "m:", 1);
        Edge.sentence(5, "with ; between them: a letter a to h, whose (PEOPLE 0 to 7), a figure 1 to 9, how GREAT, and two letters a to x");
        for (String well : new String[] {"a1aa", "h9xx", "a9ax", "h1xa"}) {
            fault(1, well, Check.NONE);
        }
        String[] wrong = {"`1aa", "i1aa", "a0aa", "a:aa", "a1`a", "a1ya", "a1a`", "a1ay", "a1aa:", "a1aaa"};
        int[] places = {0, 0, 1, 1, 2, 2, 3, 3, 4, 4};
        for (int i = 0; i < wrong.length; i++) {
            fault(1, wrong[i], places[i]);
        }
    }

    private static void everyByte(int text, String well) {
        for (int place = 0; place < well.length(); place++) {
            for (int b = 0; b <= 255; b++) {
                PromiseTailor x = new PromiseTailor();
                Check.typeAll(x, text, well.substring(0, place) + (char) b + well.substring(place + 1));
                Edge.due("byte " + b + " at " + place, x.fault(text), goesOn(text, place, b) ? Check.NONE : place);
            }
        }
    }

    private static void fault(int text, String bytes, int want) {
        PromiseTailor x = new PromiseTailor();
        Check.typeAll(x, text, bytes);
        Edge.due("fault of '" + bytes + "'", x.fault(text), want);
    }

    private static void signsBetween() {
        Edge.sentence(5, "8 at most (0 on), with ; between them");
        fault(0, "m0;m0", Check.NONE);
        fault(0, ";m0", 0);
        fault(0, "m0m0", 2);
        fault(0, "m0;;m0", 3);
        fault(0, "m0;m0;", 6);
        fault(0, "m0:m0", 2);
        fault(0, "m0 ;m0", 2);
        Edge.sentence(5, "10 at most (0 on), with ; between them");
        fault(1, "a1aa;a1aa", Check.NONE);
        fault(1, ";a1aa", 0);
        fault(1, "a1aaa1aa", 4);
        fault(1, "a1aa;;a1aa", 5);
        fault(1, "a1aa;a1aa;", 10);
        fault(1, "a1aa:a1aa", 4);
    }

    private static void faultOfNoneAndOfTheUnended() {
        Edge.sentence(5, "The FAULT of a text; NONE.");
        fault(0, EIGHT, Check.NONE);
        fault(1, TEN, Check.NONE);
        Edge.sentence(5, "an empty one is well");
        PromiseTailor x = new PromiseTailor();
        for (int text = 0; text < 2; text++) {
            Edge.due("fault of an empty text", x.fault(text), Check.NONE);
            x.type(text, 'x');
            x.type(text, 'x');
            x.undo(text);
            x.undo(text);
            Edge.due("fault of a text undone", x.fault(text), Check.NONE);
            x.type(text, 'x');
            x.wipe(text);
            Edge.due("fault of a text wiped", x.fault(text), Check.NONE);
        }
        Edge.sentence(5, "of one that is not ended, its end");
        PromiseTailor y = new PromiseTailor();
        for (int i = 1; i <= EIGHT.length(); i++) {
            y.type(0, EIGHT.charAt(i - 1));
            Edge.due("the first " + i + " of PEOPLE", y.fault(0), i % 3 == 2 ? Check.NONE : i);
            Edge.due("how many PEOPLE", y.count(0), i % 3 == 2 ? (i + 1) / 3 : 0);
        }
        for (int i = 1; i <= TEN.length(); i++) {
            y.type(1, TEN.charAt(i - 1));
            Edge.due("the first " + i + " of PROMISES", y.fault(1), i % 5 == 4 ? Check.NONE : i);
            Edge.due("how many PROMISES", y.count(1), i % 5 == 4 ? (i + 1) / 5 : 0);
        }
        Edge.sentence(5, "BAD.");
        for (Edge.Making making : Towns.ALL) {
            Edge.bounds(making, "fault", (z, n) -> z.fault(n[0]), Check.BAD, Edge.range(0, 1));
            Edge.asks(making, "fault", (z, n) -> z.fault(n[0]), 0);
            Edge.asks(making, "fault", (z, n) -> z.fault(n[0]), 1);
        }
    }

    /** The rooms of the texts end with the eighth PERSON and the tenth PROMISE, so the first byte of one more is never taken. */
    private static void faultOfOneTooMany() {
        Edge.sentence(5, "here also of the first byte of a ninth PERSON, of an eleventh PROMISE");
        PromiseTailor x = Check.town(EIGHT, TEN);
        Edge.due("fault of eight PEOPLE", x.fault(0), Check.NONE);
        Edge.due("fault of ten PROMISES", x.fault(1), Check.NONE);
        Edge.due("eight", x.count(0), 8);
        Edge.due("ten", x.count(1), 10);
        for (char c : ";m0".toCharArray()) {
            Edge.due("no room for a ninth", x.type(0, c), Check.FULL);
        }
        for (char c : ";a1ax".toCharArray()) {
            Edge.due("no room for an eleventh", x.type(1, c), Check.FULL);
        }
        Edge.due("fault of eight PEOPLE", x.fault(0), Check.NONE);
        Edge.due("fault of ten PROMISES", x.fault(1), Check.NONE);
    }

    private static void asIfEmpty() {
        Edge.sentence(5, "With a FAULT a text is as if it was empty.");
        for (String bytes : new String[] {";", "x", "\0", ";m", ";m0;"}) {
            for (int text = 0; text < 2; text++) {
                for (Edge.Making making : new Edge.Making[] {Towns.SOME, () -> Check.town("m4;s3;a5", "a9ad;b4bf;c7cc")}) {
                    PromiseTailor faulty = making.make();
                    Check.typeAll(faulty, text, bytes);
                    PromiseTailor wiped = making.make();
                    wiped.wipe(text);
                    Edge.says("a FAULT", faulty.fault(text) >= 0);
                    Edge.same("text " + text + " with '" + bytes + "' behind it", answers(faulty), answers(wiped));
                }
            }
        }
    }

    /** What an object answers wherever its texts count, but for their bytes and their FAULTS. */
    private static List<Long> answers(PromiseTailor x) {
        List<Long> all = new ArrayList<>();
        for (int what : new int[] {0, 1, 4, 5, 6, 7, 8}) {
            all.add((long) x.count(what));
        }
        for (int day : new int[] {0, 3, 23}) {
            for (int i = 0; i < 3; i++) {
                all.add((long) x.coat(day, i, 0));
                all.add((long) x.stands(day, i));
                all.add((long) x.swear(i, day));
                all.add(x.word(5, i, day, 0));
            }
            for (long one : new long[] {x.neat(day), x.naked(day), x.longest(day), x.keep(day, 0), x.keep(day, 1)}) {
                all.add(one);
            }
        }
        for (int i = 0; i < 3; i++) {
            for (long one : new long[] {x.person(i, 0), x.promise(i, 0), x.due(i, 0), x.due(i, 1), x.was(i, 0), x.was(i, 1), x.ask(i),
                x.write(i, 0)}) {
                all.add(one);
            }
        }
        for (long one : new long[] {x.splits(), x.best(), x.hush(-1), x.hush(0), x.never(), x.year(3, 8, 0), x.year(3, 8, 1)}) {
            all.add(one);
        }
        return all;
    }

    private static void person() {
        Edge.sentence(6, "Its sort (what = 0: 0 m, 1 s, 2 a), its SIZE (1) of a PERSON.");
        String sorts = "msa";
        for (int sort = 0; sort < 3; sort++) {
            for (int size = 0; size <= 9; size++) {
                PromiseTailor x = Check.town("m1;" + sorts.charAt(sort) + size, "");
                Edge.due("sort of " + sorts.charAt(sort), x.person(1, 0), sort);
                Edge.due("SIZE of " + size, x.person(1, 1), size);
            }
        }
        Edge.sentence(6, "8 at most (0 on)");
        PromiseTailor full = Check.town(EIGHT, "");
        Edge.due("no PERSON 8", full.person(8, 0), Check.BAD);
        Edge.due("no PERSON -1", full.person(-1, 0), Check.BAD);
        for (int i = 0; i < 8; i++) {
            Edge.due("SIZE of PERSON " + i, full.person(i, 1), EIGHT.charAt(3 * i + 1) - '0');
            Edge.due("sort of PERSON " + i, full.person(i, 0), sorts.indexOf(EIGHT.charAt(3 * i)));
        }
        Edge.sentence(6, "BAD.");
        Edge.Call person = (x, n) -> x.person(n[0], n[1]);
        Edge.bounds(Towns.EMPTY, "person", person, Check.BAD, Edge.range(0, -1), Edge.range(0, 1));
        Edge.bounds(() -> Check.town("m1", "h1ax"), "person", person, Check.BAD, Edge.range(0, 0), Edge.range(0, 1));
        Edge.bounds(Towns.SOME, "person", person, Check.BAD, Edge.range(0, 2), Edge.range(0, 1));
        Edge.bounds(Towns.FULL, "person", person, Check.BAD, Edge.range(0, 7), Edge.range(0, 1));
        Edge.asks(Towns.SOME, "person", person, 1, 0);
    }

    private static void promise() {
        Edge.sentence(7, "Whose (what = 0), how GREAT (1), when MADE (2), when DUE (3) a PROMISE is.");
        for (int i = 0; i < 24; i++) {
            int whose = i % 8;
            int great = 1 + i % 9;
            String one = "" + (char) ('a' + whose) + great + (char) ('a' + i) + (char) ('x' - i);
            PromiseTailor x = Check.town("", "b2cd;" + one);
            Edge.due("whose of " + one, x.promise(1, 0), whose);
            Edge.due("how GREAT of " + one, x.promise(1, 1), great);
            Edge.due("when MADE of " + one, x.promise(1, 2), i);
            Edge.due("when DUE of " + one, x.promise(1, 3), 23 - i);
        }
        Edge.sentence(7, "10 at most (0 on)");
        PromiseTailor full = Check.town("", TEN);
        for (int i = 0; i < 10; i++) {
            Edge.due("when MADE is PROMISE " + i, full.promise(i, 2), i);
        }
        Edge.due("no PROMISE 10", full.promise(10, 2), Check.BAD);
        Edge.due("no PROMISE -1", full.promise(-1, 2), Check.BAD);
        Edge.sentence(7, "the DAY on which it is MADE, and the DAY on which it is DUE (0 to 23 both)");
        PromiseTailor ends = Check.town("", "a1ax;a1xa");
        Edge.due("MADE on the first", ends.promise(0, 2), 0);
        Edge.due("DUE on the last", ends.promise(0, 3), 23);
        Edge.due("MADE on the last", ends.promise(1, 2), 23);
        Edge.due("DUE on the first", ends.promise(1, 3), 0);
        fault(1, "a1ya", 2);
        fault(1, "a1ay", 3);
        Edge.sentence(7, "BAD.");
        Edge.Call promise = (x, n) -> x.promise(n[0], n[1]);
        Edge.bounds(Towns.EMPTY, "promise", promise, Check.BAD, Edge.range(0, -1), Edge.range(0, 3));
        Edge.bounds(() -> Check.town("", "h1ax"), "promise", promise, Check.BAD, Edge.range(0, 0), Edge.range(0, 3));
        Edge.bounds(Towns.SOME, "promise", promise, Check.BAD, Edge.range(0, 4), Edge.range(0, 3));
        Edge.bounds(Towns.FULL, "promise", promise, Check.BAD, Edge.range(0, 9), Edge.range(0, 3));
        Edge.asks(Towns.SOME, "promise", promise, 1, 0);
    }
}
