import java.io.IOException;
import java.nio.file.Files;
import java.nio.file.Path;
import java.util.ArrayList;
import java.util.List;
import java.util.TreeSet;

/**
 * Tests of single sentences of the document. Each names its promise and quotes its sentence, and what is not as due is
 * told with both. A refused call is made on one of two like objects, which must still be alike behind it.
 */
final class Edge {
    /** Makes an object; two objects of one making are alike. */
    interface Making {
        PromiseTailor make();
    }

    /** A call with some numbers. */
    interface Call {
        long on(PromiseTailor x, int... numbers);
    }

    private static final Path DOCUMENT = Path.of("../shared/DOC.md");
    private static final TreeSet<Integer> named = new TreeSet<>();
    private static String document = null;
    private static String heading = "";
    private static int answersOfSentence = 1;
    private static int sentences = 0;

    private Edge() {
    }

    /** What follows tests a sentence, which must stand ahead of the promises or in the promise's own paragraph. */
    static void sentence(int promise, String words) {
        endSentence();
        heading = "promise " + promise + ", \"" + words + "\": ";
        sentences++;
        named.add(promise);
        if (!stands(promise, words)) {
            Check.due(heading + "the document has these words", 0, 1);
        }
    }

    private static void endSentence() {
        if (answersOfSentence == 0) {
            Check.due(heading + "it has a test", 0, 1);
        }
        answersOfSentence = 0;
    }

    private static boolean stands(int promise, String words) {
        String all = document();
        String front = all.substring(0, Math.max(0, all.indexOf("## Promise 1:")));
        int own = Math.max(0, all.indexOf("## Promise " + promise + ":"));
        int next = all.indexOf("## ", own + 3);
        String paragraph = all.substring(own, next < 0 ? all.length() : next);
        return all.isEmpty() || front.contains(words) || paragraph.contains(words);
    }

    /** The document in one line; nothing, if it is not beside the project. */
    private static String document() {
        if (document == null) {
            try {
                document = Files.exists(DOCUMENT) ? Files.readString(DOCUMENT).replaceAll("\\s+", " ") : "";
            } catch (IOException e) {
                document = "";
            }
        }
        return document;
    }

    static void due(String call, long got, long want) {
        answersOfSentence++;
        Check.due(heading + call, got, want);
    }

    static void says(String what, boolean so) {
        due(what, so ? 1 : 0, 1);
    }

    /** A call that answers a refusal which is no FINDING, and changes nothing. */
    static void refused(Making making, String name, Call call, long want, int... numbers) {
        PromiseTailor x = making.make();
        PromiseTailor like = making.make();
        due(told(name, numbers), call.on(x, numbers), want);
        same(told(name, numbers) + " changes nothing", all(x), all(like));
    }

    /** A call that answers a FINDING, and changes nothing but count() 8. */
    static void finds(Making making, String name, Call call, int finding, int... numbers) {
        PromiseTailor x = making.make();
        PromiseTailor like = making.make();
        due(told(name, numbers), call.on(x, numbers), name.equals("get") ? Check.LEAST_INT : -10 - finding);
        due(told(name, numbers) + ", then count(8)", x.count(8), finding);
        same(told(name, numbers) + " changes count() 8 alone", allButFinding(x), allButFinding(like));
    }

    /** A call that only asks. */
    static void asks(Making making, String name, Call call, int... numbers) {
        PromiseTailor x = making.make();
        long first = call.on(x, numbers);
        due(told(name, numbers) + " again", call.on(x, numbers), first);
        same(told(name, numbers) + " changes nothing", all(x), all(making.make()));
    }

    /**
     * Each number at its least and at its most is taken; one below, one above and the ends of all ints are BAD, whatever
     * the others are, and change nothing. Where the most is below the least, there is nothing to take.
     */
    static void bounds(Making making, String name, Call call, long bad, int[]... ranges) {
        for (int which = 0; which < 1 << ranges.length; which++) {
            int[] numbers = ends(ranges, which);
            if (within(ranges, numbers)) {
                says(told(name, numbers) + " is taken", call.on(making.make(), numbers) != bad);
            }
            for (int k = 0; k < ranges.length; k++) {
                for (int v : new int[] {ranges[k][0] - 1, ranges[k][1] + 1, Integer.MIN_VALUE, Integer.MAX_VALUE}) {
                    int[] outside = numbers.clone();
                    outside[k] = v;
                    refused(making, name, call, bad, outside);
                }
            }
        }
    }

    static int[] range(int least, int most) {
        return new int[] {least, most};
    }

    private static int[] ends(int[][] ranges, int which) {
        int[] numbers = new int[ranges.length];
        for (int k = 0; k < ranges.length; k++) {
            numbers[k] = ranges[k][which >> k & 1];
        }
        return numbers;
    }

    private static boolean within(int[][] ranges, int[] numbers) {
        for (int k = 0; k < ranges.length; k++) {
            if (numbers[k] < ranges[k][0] || numbers[k] > ranges[k][1]) {
                return false;
            }
        }
        return true;
    }

    static String told(String name, int... numbers) {
        StringBuilder told = new StringBuilder(name).append('(');
        for (int i = 0; i < numbers.length; i++) {
            told.append(i == 0 ? "" : ", ").append(numbers[i]);
        }
        return told.append(')').toString();
    }

    static void same(String what, List<Long> got, List<Long> want) {
        int place = 0;
        while (place < Math.min(got.size(), want.size()) && got.get(place).equals(want.get(place))) {
            place++;
        }
        says(what + " (answer " + place + " behind it)", got.equals(want));
    }

    static List<Long> all(PromiseTailor x) {
        List<Long> answers = new ArrayList<>();
        answers.add((long) x.count(8));
        answers.addAll(allButFinding(x));
        return answers;
    }

    /**
     * All that an object holds but for count() 8, in fewer than 400 calls. It ends with a town in which every KEEPING,
     * LIE and LETTING counts, so that those of nobody and of no PROMISE are seen too.
     */
    static List<Long> allButFinding(PromiseTailor x) {
        List<Long> answers = new ArrayList<>();
        for (int what = 0; what <= 7; what++) {
            answers.add((long) x.count(what));
        }
        answers.add(x.digest());
        for (int s = 0; s < 4; s++) {
            addSheet(answers, x, s);
        }
        for (int text = 0; text < 2; text++) {
            addText(answers, x, text);
        }
        Check.typeAll(x, 0, "a9;s8;m9;a7;s9;m8;a8;s7");
        Check.typeAll(x, 1, "a5ax;b6ax;c9ax;d5ax;e7ax;f8ax;g9ax;h6ax;a8ax;b9ax");
        answers.add(x.digest());
        for (int what = 0; what < 3; what++) {
            answers.add((long) x.back(what));
        }
        answers.add(x.digest());
        answers.add((long) x.forget());
        answers.add(x.digest());
        return answers;
    }

    private static void addSheet(List<Long> answers, PromiseTailor x, int s) {
        for (int form = 0; form < 3; form++) {
            long first = x.get(s, form, 0);
            answers.add(first);
            // 3: another FORM, 2: the FORM but no item, and what is no FINDING of this get says nothing new
            answers.add(first == Check.LEAST_INT ? (long) x.count(8) : 0L);
            for (int i = 1; i < 60 && answers.get(answers.size() - 1) != Check.LEAST_INT && first != Check.LEAST_INT; i++) {
                answers.add((long) x.get(s, form, i));
            }
        }
        answers.add((long) x.lose(s));
    }

    private static void addText(List<Long> answers, PromiseTailor x, int text) {
        while (x.fault(text) != Check.NONE) {
            answers.add((long) x.fault(text));
            answers.add((long) x.undo(text));
        }
        answers.add(x.digest());
        answers.add((long) x.wipe(text));
    }

    /** Each promise from the first to the last has had a sentence. */
    static void end(int first, int last) {
        endSentence();
        for (int promise = first; promise <= last; promise++) {
            Check.due("promise " + promise + " has a sentence", named.contains(promise) ? 1 : 0, 1);
        }
        Check.due("no promise but " + first + " to " + last, named.size(), last - first + 1);
        System.out.print(sentences + " sentences, ");
        Check.end();
    }
}
