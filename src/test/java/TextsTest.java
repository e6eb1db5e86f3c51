/** Promises 1 to 7: a new object, type, wipe, undo, fault, person, promise. */
public final class TextsTest {
    public static void main(String[] args) {
        newObject();
        type();
        wipeAndUndo();
        faultOfPeople();
        faultOfPromises();
        aFaultMakesEmpty();
        person();
        promise();
        Check.end();
    }

    private static void newObject() {
        PromiseTailor x = new PromiseTailor();
        for (int what = 0; what <= 8; what++) {
            Check.due("new: count(" + what + ")", x.count(what), 0);
        }
        for (int s = 0; s < 4; s++) {
            Check.due("new: lose(" + s + ")", x.lose(s), Check.NULL);
        }
        Check.due("new: fault(0)", x.fault(0), Check.NONE);
        Check.due("new: fault(1)", x.fault(1), Check.NONE);
    }

    private static void type() {
        PromiseTailor x = new PromiseTailor();
        Check.due("type(0, 0)", x.type(0, 0), 1);
        Check.due("type(0, 255)", x.type(0, 255), 2);
        Check.due("type(0, 256)", x.type(0, 256), Check.BAD);
        Check.due("type(0, -1)", x.type(0, -1), Check.BAD);
        Check.due("type(-1, 97)", x.type(-1, 97), Check.BAD);
        Check.due("type(2, 97)", x.type(2, 97), Check.BAD);
        for (int i = 3; i <= 23; i++) {
            Check.due("type(0, 59)", x.type(0, 59), i);
        }
        Check.due("type(0, 59) full", x.type(0, 59), Check.FULL);
        Check.due("type(0, 256) full", x.type(0, 256), Check.BAD);
        for (int i = 1; i <= 49; i++) {
            Check.due("type(1, 59)", x.type(1, 59), i);
        }
        Check.due("type(1, 59) full", x.type(1, 59), Check.FULL);
        Check.due("count(2)", x.count(2), 23);
        Check.due("count(3)", x.count(3), 49);
    }

    private static void wipeAndUndo() {
        PromiseTailor x = Check.town("m1;s2", "a1ab");
        Check.due("undo(0)", x.undo(0), 4);
        Check.due("person gone", x.person(0, 0), Check.BAD);
        Check.due("undo(0)", x.undo(0), 3);
        Check.due("undo(0)", x.undo(0), 2);
        Check.due("person back", x.person(0, 1), 1);
        Check.due("undo(2)", x.undo(2), Check.BAD);
        Check.due("undo(-1)", x.undo(-1), Check.BAD);
        Check.due("wipe(2)", x.wipe(2), Check.BAD);
        Check.due("wipe(-1)", x.wipe(-1), Check.BAD);
        Check.due("wipe(0)", x.wipe(0), 2);
        Check.due("wipe(0)", x.wipe(0), 0);
        Check.due("undo(0) of an empty text", x.undo(0), Check.NOT);
        Check.due("people gone", x.count(0), 0);
        Check.due("promises stay", x.count(1), 1);
        Check.due("wipe(1)", x.wipe(1), 4);
        Check.due("undo(1) of an empty text", x.undo(1), Check.NOT);
        Check.due("promises gone", x.count(1), 0);
    }

    private static void faultOfPeople() {
        fault(0, "", Check.NONE);
        fault(0, "m0", Check.NONE);
        fault(0, "s9;a0;m5", Check.NONE);
        fault(0, "m0;m1;m2;m3;m4;m5;m6;m7", Check.NONE);
        fault(0, "m", 1);
        fault(0, "m0;", 3);
        fault(0, "b0", 0);
        fault(0, "M0", 0);
        fault(0, "m:", 1);
        fault(0, "m/", 1);
        fault(0, "m0,", 2);
        fault(0, "m0;;", 3);
        fault(0, "m0;s", 4);
        fault(0, ";", 0);
    }

    private static void faultOfPromises() {
        fault(1, "", Check.NONE);
        fault(1, "a1aa", Check.NONE);
        fault(1, "h9xx;a1ax", Check.NONE);
        fault(1, "a1aa;a1aa;a1aa;a1aa;a1aa;a1aa;a1aa;a1aa;a1aa;a1aa", Check.NONE);
        fault(1, "i1aa", 0);
        fault(1, "`1aa", 0);
        fault(1, "a0aa", 1);
        fault(1, "a:aa", 1);
        fault(1, "a1ya", 2);
        fault(1, "a1ay", 3);
        fault(1, "a1`a", 2);
        fault(1, "a1aaa", 4);
        fault(1, "a", 1);
        fault(1, "a1", 2);
        fault(1, "a1a", 3);
        fault(1, "a1aa;", 5);
        fault(1, "a1aa;b", 6);
        PromiseTailor x = new PromiseTailor();
        Check.due("fault(2)", x.fault(2), Check.BAD);
        Check.due("fault(-1)", x.fault(-1), Check.BAD);
    }

    private static void fault(int text, String bytes, int want) {
        PromiseTailor x = new PromiseTailor();
        Check.typeAll(x, text, bytes);
        Check.due("fault of '" + bytes + "'", x.fault(text), want);
    }

    private static void aFaultMakesEmpty() {
        PromiseTailor x = Check.town("m1;s2;", "a1ab;b2cd;");
        Check.due("people with a fault", x.count(0), 0);
        Check.due("promises with a fault", x.count(1), 0);
        Check.due("bytes stay", x.count(2), 6);
        Check.due("bytes stay", x.count(3), 10);
        Check.due("person(0, 0)", x.person(0, 0), Check.BAD);
        Check.due("promise(0, 0)", x.promise(0, 0), Check.BAD);
        x.undo(0);
        x.undo(1);
        Check.due("people without it", x.count(0), 2);
        Check.due("promises without it", x.count(1), 2);
    }

    private static void person() {
        PromiseTailor x = Check.town("m0;s9;a4", "");
        int[] sorts = {0, 1, 2};
        int[] sizes = {0, 9, 4};
        for (int i = 0; i < 3; i++) {
            Check.due("person(" + i + ", 0)", x.person(i, 0), sorts[i]);
            Check.due("person(" + i + ", 1)", x.person(i, 1), sizes[i]);
        }
        Check.due("person(3, 0)", x.person(3, 0), Check.BAD);
        Check.due("person(-1, 0)", x.person(-1, 0), Check.BAD);
        Check.due("person(0, 2)", x.person(0, 2), Check.BAD);
        Check.due("person(0, -1)", x.person(0, -1), Check.BAD);
    }

    private static void promise() {
        PromiseTailor x = Check.town("", "h9xa;a1bw");
        int[] first = {7, 9, 23, 0};
        int[] second = {0, 1, 1, 22};
        for (int what = 0; what < 4; what++) {
            Check.due("promise(0, " + what + ")", x.promise(0, what), first[what]);
            Check.due("promise(1, " + what + ")", x.promise(1, what), second[what]);
        }
        Check.due("promise(2, 0)", x.promise(2, 0), Check.BAD);
        Check.due("promise(-1, 0)", x.promise(-1, 0), Check.BAD);
        Check.due("promise(0, 4)", x.promise(0, 4), Check.BAD);
        Check.due("promise(0, -1)", x.promise(0, -1), Check.BAD);
    }
}
