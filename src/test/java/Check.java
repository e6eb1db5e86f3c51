/** What the tests share: towns made from texts, and the count of answers that are not as due. */
final class Check {
    static final int NONE = PromiseTailor.NONE, BAD = PromiseTailor.BAD, NOT = PromiseTailor.NOT, FULL = PromiseTailor.FULL;
    static final int NULL = -11, INDEX = -12, CAST = -13, STORE = -14, SIZE = -15;
    static final int LEAST_INT = Integer.MIN_VALUE;
    static final long LONG_BAD = Long.MIN_VALUE + 2;

    private static int answers = 0;
    private static int wrong = 0;

    private Check() {
    }

    static void due(String call, long got, long want) {
        answers++;
        if (got != want) {
            wrong++;
            System.out.println(call + " answered " + got + ", due is " + want);
        }
    }

    static PromiseTailor town(String people, String promises) {
        PromiseTailor x = new PromiseTailor();
        typeAll(x, 0, people);
        typeAll(x, 1, promises);
        return x;
    }

    static void typeAll(PromiseTailor x, int text, String bytes) {
        int had = x.count(2 + text);
        for (int i = 0; i < bytes.length(); i++) {
            due("type(" + text + ", " + (int) bytes.charAt(i) + ")", x.type(text, bytes.charAt(i)), had + i + 1);
        }
    }

    static void end() {
        System.out.println(answers + " answers, " + wrong + " not as due");
        if (wrong != 0 || answers == 0) {
            System.exit(1);
        }
    }
}
