import java.util.Random;

/** Long runs of calls by chance, of fixed seeds, on the class and on the slow telling of the document. */
public final class RandomRunsTest {
    private static final int RUNS = 400, CALLS = 512;

    private final Random random;
    private final PromiseTailor x = new PromiseTailor();
    private final SlowTailor slow = new SlowTailor();
    private final StringBuilder told = new StringBuilder();
    private final int run;
    private int calls = 0;
    private static int wrongRuns = 0;
    private boolean wrong = false;

    private RandomRunsTest(int run) {
        this.run = run;
        this.random = new Random(977L * run + 5);
    }

    public static void main(String[] args) {
        for (int run = 0; run < RUNS && wrongRuns < 5; run++) {
            RandomRunsTest test = new RandomRunsTest(run);
            test.go();
        }
        System.out.println(RUNS + " runs by chance, " + wrongRuns + " with a wrong answer");
        if (wrongRuns != 0) {
            System.exit(1);
        }
    }

    private void due(String call, long got, long want) {
        calls++;
        told.append(call).append(" = ").append(want).append('\n');
        Check.due("run " + run + " call " + calls + " " + call, got, want);
        if (got != want && !wrong) {
            wrong = true;
            wrongRuns++;
            System.out.println(told);
        }
    }

    private void go() {
        typeTown();
        tell(random.nextInt(25));
        while (calls < CALLS - 60 && !wrong) {
            int kind = random.nextInt(40);
            if (kind == 0) {
                typeTown();
            } else if (kind < 6) {
                tell(1 + random.nextInt(3));
            } else if (kind < 8) {
                seeTrue();
            } else {
                one(random.nextInt(38));
            }
        }
        due("digest()", x.digest(), slow.digest());
    }

    private void typeTown() {
        if (random.nextInt(4) != 0) {
            due("wipe(0)", x.wipe(0), slow.wipe(0));
            int people = random.nextInt(9);
            for (int i = 0; i < people; i++) {
                typed(0, (i == 0 ? "" : ";") + "msa".charAt(random.nextInt(3)) + random.nextInt(10));
            }
        }
        if (random.nextInt(4) != 0) {
            due("wipe(1)", x.wipe(1), slow.wipe(1));
            int promises = random.nextInt(11);
            int letters = random.nextInt(3) == 0 ? 2 : 8;
            for (int i = 0; i < promises; i++) {
                String one = "" + (char) ('a' + random.nextInt(letters)) + (1 + random.nextInt(9)) + (char) ('a' + madeDay()) + (char) ('a' + random.nextInt(24));
                typed(1, (i == 0 ? "" : ";") + one);
            }
        }
        if (random.nextInt(6) == 0) {
            int text = random.nextInt(2);
            int b = random.nextInt(3) == 0 ? random.nextInt(256) : "msa059;hx".charAt(random.nextInt(9));
            due("type(" + text + ", " + b + ")", x.type(text, b), slow.type(text, b));
            due("fault(" + text + ")", x.fault(text), slow.fault(text));
            if (random.nextBoolean()) {
                due("undo(" + text + ")", x.undo(text), slow.undo(text));
            }
        }
    }

    private int madeDay() {
        return random.nextInt(random.nextBoolean() ? 4 : 24);
    }

    private void typed(int text, String bytes) {
        for (char c : bytes.toCharArray()) {
            due("type(" + text + ", " + (int) c + ")", x.type(text, c), slow.type(text, c));
        }
    }

    private void tell(int many) {
        for (int i = 0; i < many; i++) {
            int day = random.nextInt(24);
            switch (random.nextInt(5)) {
                case 0, 1 -> {
                    int p = random.nextInt(random.nextBoolean() ? 10 : 3);
                    due("keeping(" + day + ", " + p + ")", x.keeping(day, p), slow.keeping(day, p));
                }
                case 2 -> {
                    int p = random.nextInt(8);
                    int much = 1 + random.nextInt(9);
                    due("lie(" + day + ", " + p + ", " + much + ")", x.lie(day, p, much), slow.lie(day, p, much));
                }
                case 3 -> {
                    int p = random.nextInt(8);
                    int much = 1 + random.nextInt(9);
                    due("letting(" + day + ", " + p + ", " + much + ")", x.letting(day, p, much), slow.letting(day, p, much));
                }
                default -> {
                    int what = random.nextInt(3);
                    due("back(" + what + ")", x.back(what), slow.back(what));
                }
            }
        }
    }

    /** Something SEEN that may well be so, or else NEVER, SIZES and SORTS would nearly always be empty. */
    private void seeTrue() {
        if (random.nextInt(3) == 0) {
            due("forget()", x.forget(), slow.forget());
        }
        int day = random.nextInt(24);
        int person = random.nextInt(8);
        int much = Math.max(0, slow.coat(day, person, 0)) + (random.nextInt(5) == 0 ? 1 : 0);
        due("seen(" + day + ", " + person + ", " + much + ")", x.seen(day, person, much), slow.seen(day, person, much));
    }

    /** A number 0 to most, sometimes one that is not as told. */
    private int upTo(int most) {
        int kind = random.nextInt(60);
        if (kind == 0) return -1;
        if (kind == 1) return most + 1;
        if (kind == 2) return random.nextInt();
        if (kind == 3) return random.nextBoolean() ? Integer.MIN_VALUE : Integer.MAX_VALUE;
        return random.nextInt(most + 1);
    }

    private void one(int kind) {
        if (kind < 19) {
            plain(kind);
        } else if (kind < 30) {
            plan(kind);
        } else {
            sheets(kind);
        }
    }

    private void plain(int kind) {
        int day = upTo(23);
        int person = upTo(7);
        int what = upTo(2);
        switch (kind) {
            case 0 -> due("fault(" + what + ")", x.fault(what), slow.fault(what));
            case 1 -> due("person(" + person + ", " + what + ")", x.person(person, what), slow.person(person, what));
            case 2, 3 -> {
                int p = upTo(9);
                int w = upTo(3);
                due("promise(" + p + ", " + w + ")", x.promise(p, w), slow.promise(p, w));
            }
            case 4 -> {
                int p = upTo(9);
                due("keeping(" + day + ", " + p + ")", x.keeping(day, p), slow.keeping(day, p));
            }
            case 5 -> {
                int much = upTo(9);
                due("lie(" + day + ", " + person + ", " + much + ")", x.lie(day, person, much), slow.lie(day, person, much));
            }
            case 6 -> {
                int much = upTo(9);
                due("letting(" + day + ", " + person + ", " + much + ")", x.letting(day, person, much), slow.letting(day, person, much));
            }
            case 7 -> due("back(" + what + ")", x.back(what), slow.back(what));
            case 8 -> {
                int s = upTo(3);
                due("read(" + s + ")", x.read(s), slow.read(s));
            }
            case 9, 10, 11 -> due("coat(" + day + ", " + person + ", " + what + ")", x.coat(day, person, what), slow.coat(day, person, what));
            case 12, 13 -> {
                int p = upTo(9);
                due("stands(" + day + ", " + p + ")", x.stands(day, p), slow.stands(day, p));
            }
            case 14 -> due("neat(" + day + ")", x.neat(day), slow.neat(day));
            case 15 -> due("naked(" + day + ")", x.naked(day), slow.naked(day));
            case 16 -> due("longest(" + day + ")", x.longest(day), slow.longest(day));
            case 17 -> due("splits()", x.splits(), slow.splits());
            default -> due("best()", x.best(), slow.best());
        }
    }

    private void plan(int kind) {
        int day = upTo(23);
        int person = upTo(7);
        int what = upTo(1);
        switch (kind) {
            case 19 -> due("swear(" + person + ", " + day + ")", x.swear(person, day), slow.swear(person, day));
            case 20 -> due("keep(" + day + ", " + what + ")", x.keep(day, what), slow.keep(day, what));
            case 21 -> {
                int p = upTo(9);
                due("due(" + p + ", " + what + ")", x.due(p, what), slow.due(p, what));
            }
            case 22 -> {
                int i = random.nextInt(4) - 1;
                due("hush(" + i + ")", x.hush(i), slow.hush(i));
            }
            case 23 -> {
                int much = upTo(99);
                if (random.nextInt(8) == 0) {
                    due("seen(" + day + ", " + person + ", " + much + ")", x.seen(day, person, much), slow.seen(day, person, much));
                }
            }
            case 24 -> due("never()", x.never(), slow.never());
            case 25 -> due("was(" + person + ", " + what + ")", x.was(person, what), slow.was(person, what));
            case 26 -> due("ask(" + person + ")", x.ask(person), slow.ask(person));
            case 27, 28 -> {
                int c = upTo(16);
                due("word(" + c + ", " + person + ", " + day + ", " + what + ")", x.word(c, person, day, what), slow.word(c, person, day, what));
            }
            default -> {
                int seed = random.nextInt();
                int n = upTo(8);
                due("year(" + seed + ", " + n + ", " + what + ")", x.year(seed, n, what), slow.year(seed, n, what));
            }
        }
    }

    private void sheets(int kind) {
        int s = upTo(3);
        int form = upTo(2);
        int i = upTo(random.nextBoolean() ? 60 : 8);
        int v = random.nextBoolean() ? random.nextInt() : random.nextInt(24);
        switch (kind) {
            case 30 -> due("sheet(" + s + ", " + form + ", " + i + ")", x.sheet(s, form, i), slow.sheet(s, form, i));
            case 31 -> {
                if (random.nextInt(3) == 0) {
                    due("lose(" + s + ")", x.lose(s), slow.lose(s));
                }
            }
            case 32, 33 -> due("put(" + s + ", " + form + ", " + i + ", " + v + ")", x.put(s, form, i, v), slow.put(s, form, i, v));
            case 34 -> due("get(" + s + ", " + form + ", " + i + ")", x.get(s, form, i), slow.get(s, form, i));
            case 35 -> {
                int t = upTo(3);
                int j = upTo(8);
                int n = upTo(8);
                due("copy(" + s + ", " + i + ", " + t + ", " + j + ", " + n + ")", x.copy(s, i, t, j, n), slow.copy(s, i, t, j, n));
            }
            case 36 -> {
                int person = upTo(7);
                due("write(" + person + ", " + s + ")", x.write(person, s), slow.write(person, s));
            }
            default -> {
                int what = upTo(8);
                due("count(" + what + ")", x.count(what), slow.count(what));
            }
        }
    }
}
