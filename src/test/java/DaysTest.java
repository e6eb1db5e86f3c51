/** Promises 13 to 19: coat, stands, neat, naked, longest, splits, best. */
public final class DaysTest {
    public static void main(String[] args) {
        sorts();
        keepingGoesTowardsSize();
        keepingsThatDoNothing();
        orderOfADay();
        breaking();
        breakingByNumbers();
        atMost99();
        coatRefusals();
        standsRefusals();
        ofNobody();
        bits();
        longest();
        best();
        Check.end();
    }

    private static void coat(PromiseTailor x, int day, int person, int length, int fits, int splits) {
        String call = "coat(" + day + ", " + person + ", ";
        Check.due(call + "0)", x.coat(day, person, 0), length);
        Check.due(call + "1)", x.coat(day, person, 1), fits);
        Check.due(call + "2)", x.coat(day, person, 2), splits);
    }

    private static void sorts() {
        // 7 makes a modest one's coat longer by 3, a suitor's by 14, an alderman's by 7
        PromiseTailor x = Check.town("m5;s5;a5", "a7bd;b7bd;c7bd");
        for (int person = 0; person < 3; person++) {
            coat(x, 0, person, 5, 1, 0);
        }
        coat(x, 1, 0, 8, 0, 0);
        coat(x, 1, 1, 19, 0, 0);
        coat(x, 1, 2, 12, 0, 0);
        coat(x, 3, 0, 5, 1, 1);
        coat(x, 3, 1, 5, 1, 1);
        coat(x, 3, 2, 3, 0, 1);
        coat(x, 23, 2, 3, 0, 1);
        PromiseTailor y = Check.town("m5", "a1ax;a3bx");
        coat(y, 0, 0, 5, 1, 0);
        coat(y, 1, 0, 6, 1, 0);
    }

    private static void keepingGoesTowardsSize() {
        PromiseTailor x = Check.town("s4", "a5ax");
        coat(x, 0, 0, 14, 0, 0);
        x.keeping(2, 0);
        coat(x, 1, 0, 14, 0, 0);
        coat(x, 2, 0, 9, 0, 0);
        Check.due("stands(1, 0)", x.stands(1, 0), 1);
        Check.due("stands(2, 0)", x.stands(2, 0), 2);
        coat(x, 23, 0, 9, 0, 0);
        PromiseTailor no = Check.town("m4", "a9ax");
        no.keeping(1, 0);
        coat(no, 0, 0, 8, 0, 0);
        coat(no, 1, 0, 4, 1, 0);
        PromiseTailor up = Check.town("m9", "a3ax");
        up.lie(0, 0, 9);
        up.keeping(1, 0);
        coat(up, 0, 0, 1, 0, 0);
        coat(up, 1, 0, 4, 0, 0);
        PromiseTailor upNoFarther = Check.town("m9", "a9ax");
        upNoFarther.lie(0, 0, 7);
        upNoFarther.keeping(1, 0);
        coat(upNoFarther, 0, 0, 6, 0, 0);
        coat(upNoFarther, 1, 0, 9, 1, 0);
    }

    private static void keepingsThatDoNothing() {
        PromiseTailor x = Check.town("a0", "a5cf;a6xa");
        x.keeping(1, 0);
        x.keeping(6, 0);
        x.keeping(4, 9);
        x.keeping(22, 1);
        Check.due("not made yet", x.stands(1, 0), 0);
        Check.due("made", x.stands(2, 0), 1);
        Check.due("kept too early is not kept", x.stands(4, 0), 1);
        Check.due("broken", x.stands(5, 0), 3);
        Check.due("kept too late is broken", x.stands(6, 0), 3);
        coat(x, 6, 0, 0, 1, 1);
        Check.due("due ahead of made is never broken", x.stands(23, 1), 1);
        coat(x, 23, 0, 6, 0, 1);
        PromiseTailor twice = Check.town("a0", "a5ax;a5ax");
        twice.keeping(1, 0);
        twice.keeping(2, 0);
        coat(twice, 1, 0, 5, 0, 0);
        coat(twice, 2, 0, 5, 0, 0);
        PromiseTailor late = Check.town("a0", "a6xa");
        late.keeping(23, 0);
        Check.due("due ahead of made may be kept", late.stands(23, 0), 2);
        coat(late, 23, 0, 0, 1, 0);
    }

    private static void orderOfADay() {
        PromiseTailor x = Check.town("a2", "a9aa");
        x.letting(0, 0, 3);
        x.lie(0, 0, 9);
        // made: 11, broken: 0, lie: 0, letting: 3
        coat(x, 0, 0, 3, 1, 1);
        x.keeping(0, 0);
        // made: 11, kept: 2, lie: 0, letting: 3
        coat(x, 0, 0, 3, 1, 0);
        Check.due("kept on the day it is due", x.stands(0, 0), 2);
        PromiseTailor y = Check.town("a1", "a4bb;a3ba");
        y.keeping(1, 1);
        // made: 5 and 8, kept: 5, broken: 0
        coat(y, 1, 0, 0, 0, 1);
        // both kept, as told: 8 - 3 - 4
        y.keeping(1, 0);
        coat(y, 1, 0, 1, 1, 0);
    }

    private static void breaking() {
        PromiseTailor x = Check.town("a9;m9;s9", "a9ab;b9ab;c9ab");
        x.lie(0, 0, 9);
        x.lie(0, 1, 9);
        x.lie(0, 2, 9);
        coat(x, 0, 0, 9, 1, 0);
        coat(x, 0, 1, 4, 0, 0);
        coat(x, 0, 2, 18, 0, 0);
        coat(x, 1, 0, 0, 0, 1);
        coat(x, 1, 1, 0, 0, 1);
        coat(x, 1, 2, 0, 0, 1);
        Check.due("splits()", x.splits(), 3);
        PromiseTailor two = Check.town("a9", "a1ac;a1bd");
        coat(two, 2, 0, 8, 0, 1);
        coat(two, 3, 0, 5, 0, 2);
        Check.due("splits() of one coat", two.splits(), 2);
        two.keeping(3, 1);
        Check.due("splits() less one kept", two.splits(), 1);
        two.undo(0);
        Check.due("splits() of nobody", two.splits(), 0);
        two.type(0, '9');
        two.wipe(1);
        Check.due("splits() of nothing", two.splits(), 0);
    }

    private static void breakingByNumbers() {
        // keepings are as told, not by numbers: below SIZE both orders differ only by what is kept
        PromiseTailor x = Check.town("s0", "a9ac;a9bc;a1cc");
        x.keeping(2, 2);
        coat(x, 1, 0, 36, 0, 0);
        // 38, kept: 37, broken twice: 1
        coat(x, 2, 0, 1, 1, 2);
        Check.due("stands(2, 0)", x.stands(2, 0), 3);
        Check.due("stands(2, 1)", x.stands(2, 1), 3);
        Check.due("stands(2, 2)", x.stands(2, 2), 2);
    }

    private static void atMost99() {
        PromiseTailor x = Check.town("s9", "a9aa;a9ax;a9ax;a9ax;a9ax;a9ax");
        // made: 117, but 99; broken: 81
        coat(x, 0, 0, 81, 0, 1);
        x.letting(0, 0, 9);
        x.letting(0, 0, 9);
        coat(x, 0, 0, 99, 0, 1);
        x.letting(0, 0, 1);
        coat(x, 0, 0, 99, 0, 1);
        x.lie(1, 0, 9);
        coat(x, 1, 0, 90, 0, 1);
    }

    private static void coatRefusals() {
        PromiseTailor x = Check.town("m5", "a7bd");
        Check.due("coat(-1, 0, 0)", x.coat(-1, 0, 0), Check.BAD);
        Check.due("coat(24, 0, 0)", x.coat(24, 0, 0), Check.BAD);
        Check.due("coat(0, -1, 0)", x.coat(0, -1, 0), Check.BAD);
        Check.due("coat(0, 1, 0)", x.coat(0, 1, 0), Check.BAD);
        Check.due("coat(0, 0, -1)", x.coat(0, 0, -1), Check.BAD);
        Check.due("coat(0, 0, 3)", x.coat(0, 0, 3), Check.BAD);
    }

    private static void standsRefusals() {
        PromiseTailor x = Check.town("m5", "a7bd");
        Check.due("stands(0, 0)", x.stands(0, 0), 0);
        Check.due("stands(1, 0)", x.stands(1, 0), 1);
        Check.due("stands(3, 0)", x.stands(3, 0), 3);
        Check.due("stands(-1, 0)", x.stands(-1, 0), Check.BAD);
        Check.due("stands(24, 0)", x.stands(24, 0), Check.BAD);
        Check.due("stands(0, -1)", x.stands(0, -1), Check.BAD);
        Check.due("stands(0, 1)", x.stands(0, 1), Check.BAD);
    }

    private static void ofNobody() {
        PromiseTailor x = Check.town("m5", "b7bd;h9aa");
        x.keeping(2, 0);
        x.lie(0, 1, 9);
        x.letting(0, 7, 9);
        Check.due("never made", x.stands(23, 0), 0);
        Check.due("never made", x.stands(23, 1), 0);
        Check.due("no splits", x.splits(), 0);
        coat(x, 23, 0, 5, 1, 0);
    }

    private static void bits() {
        PromiseTailor x = Check.town("m0;s1;a2;m3;s4;a5;m6;s7", "b1aa;c1ax;d9ax");
        x.lie(2, 5, 5);
        // on day 0: b 1 + 2 - 2, c 2 + 1, d 3 + 4
        Check.due("neat(0)", x.neat(0), 0b11110111);
        Check.due("naked(0)", x.naked(0), 0b00000001);
        Check.due("neat(2)", x.neat(2), 0b11010111);
        Check.due("naked(2)", x.naked(2), 0b00100001);
        // on day 23 c and d are broken: c 3 - 3, d 7 - 4
        Check.due("neat(23)", x.neat(23), 0b11011011);
        Check.due("naked(23)", x.naked(23), 0b00100101);
        for (int day : new int[] {-1, 24, Integer.MIN_VALUE, Integer.MAX_VALUE}) {
            Check.due("neat(" + day + ")", x.neat(day), Check.BAD);
            Check.due("naked(" + day + ")", x.naked(day), Check.BAD);
            Check.due("longest(" + day + ")", x.longest(day), Check.BAD);
        }
        PromiseTailor nobody = Check.town("", "a9ab");
        Check.due("neat of nobody", nobody.neat(0), 0);
        Check.due("naked of nobody", nobody.naked(0), 0);
    }

    private static void longest() {
        PromiseTailor x = Check.town("m3;s5;a5", "c1bc");
        Check.due("longest(0)", x.longest(0), 1);
        Check.due("longest(1)", x.longest(1), 2);
        Check.due("longest(2)", x.longest(2), 1);
        x.letting(2, 0, 2);
        Check.due("longest(2), a like one less", x.longest(2), 0);
        PromiseTailor zero = Check.town("m0;m0", "");
        Check.due("longest of 0", zero.longest(0), 0);
        Check.due("longest of nobody", new PromiseTailor().longest(0), Check.NONE);
    }

    private static void best() {
        PromiseTailor x = Check.town("m5;s5", "a9ac;b9bd");
        // fits: day 0 b, day 1 none, day 2 a, day 3 both
        Check.due("best()", x.best(), 3);
        x.lie(3, 0, 1);
        Check.due("best(), of like ones the least", x.best(), 0);
        PromiseTailor none = Check.town("m9", "a1ax");
        none.lie(0, 0, 1);
        Check.due("best() where it never fits", none.best(), 0);
        Check.due("best() of nobody", Check.town("", "a9ab").best(), Check.NONE);
    }
}
