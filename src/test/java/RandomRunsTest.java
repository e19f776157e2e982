import java.util.Random;

/** Random runs of calls on new objects, each answer held against that of the model. The seeds are fixed. */
public final class RandomRunsTest {
    private static final int RUNS = 400, STEPS = 200, MOST_CALLS = 480, MOST_TOLD = 20;
    private static final int[] ODD = {Integer.MIN_VALUE, -104, -2, -1, 9, 10, 11, 32, 100, 1 << 16, Integer.MAX_VALUE};

    private final Random random;
    private final int run;
    private final CountOut x = new CountOut();
    private final Model model = new Model();
    private final StringBuilder told = new StringBuilder();
    private int calls;
    private static int wrong;

    private RandomRunsTest(int run) {
        this.run = run;
        this.random = new Random(run);
    }

    public static void main(String[] args) {
        for (int run = 0; run < RUNS && wrong < MOST_TOLD; run++) {
            new RandomRunsTest(run).go();
        }
        System.out.println(wrong == 0 ? "all random runs are as the model's" : wrong + " answers are not the model's");
        if (wrong != 0) {
            System.exit(1);
        }
    }

    private void due(String call, long got, long want) {
        calls++;
        told.append(call).append(" = ").append(want).append('\n');
        if (got != want) {
            wrong++;
            System.out.println("run " + run + ": behind\n" + told + call + " answered " + got + ", due is " + want);
        }
    }

    private void go() {
        if (random.nextInt(8) == 0) {
            for (int i = 0; i < 30; i++) {
                callAny();
            }
        }
        for (int step = 0; step < STEPS && calls < MOST_CALLS && wrong < MOST_TOLD; step++) {
            if (step % 60 == 0) {
                writeRing();
                ring();
            } else {
                callAny();
            }
        }
        due("digest()", x.digest(), model.digest());
    }

    private int small(int bound) {
        return random.nextInt(12) == 0 ? ODD[random.nextInt(ODD.length)] : random.nextInt(bound);
    }

    private int someBeats() {
        return random.nextInt(10) == 0 ? small(1) : random.nextInt(101);
    }

    private void letter(int code) {
        due("letter(" + code + ")", x.letter(code), model.letter(code));
    }

    private void ring() {
        due("fault()", x.fault(), model.fault());
        due("ring()", x.ring(), model.ring());
    }

    private void writeRing() {
        due("blank()", x.blank(), model.blank());
        StringBuilder text = new StringBuilder();
        int verses = 1 + random.nextInt(3);
        for (int i = 0; i < verses; i++) {
            int beats = random.nextBoolean() ? 1 + random.nextInt(12) : 1 + random.nextInt(99);
            text.append(i == 0 ? "" : ",").append(beats / 10).append(beats % 10);
        }
        text.append(';');
        String kinds = new String[] {"c", "ctbsk", "ccccctbsk", "sk", "cts", "bbbc", "k", "ctskkk"}[random.nextInt(8)];
        int children = 2 + random.nextInt(7);
        for (int i = 0; i < children; i++) {
            text.append(kinds.charAt(random.nextInt(kinds.length())));
        }
        for (int i = 0; i < text.length(); i++) {
            letter(text.charAt(i));
        }
    }

    private void writeWrongRing() {
        writeRing();
        int more = random.nextInt(5);
        for (int i = 0; i < more; i++) {
            letter("0123456789,;ctbsk x".charAt(random.nextInt(19)));
        }
        ring();
    }

    private void writeLetters() {
        String signs = random.nextBoolean() ? "01,;c" : "012345,;ctbskzT-";
        int more = random.nextInt(9);
        for (int i = 0; i < more; i++) {
            letter(random.nextInt(15) == 0 ? 28 + random.nextInt(102) : signs.charAt(random.nextInt(signs.length())));
        }
        due("fault()", x.fault(), model.fault());
        if (random.nextInt(4) == 0) {
            ring();
        }
    }

    private void callAny() {
        switch (random.nextInt(10)) {
            case 0, 1, 2 -> doAny();
            case 3 -> changeAny();
            case 4, 5 -> tellAny();
            case 6 -> seeAny();
            case 7, 8 -> wouldBeAny();
            default -> rareAny();
        }
        if (random.nextInt(5) == 0) {
            int what = small(11);
            due("count(" + what + ")", x.count(what), model.count(what));
        }
    }

    private void doAny() {
        int n = small(random.nextBoolean() ? 3 : 8);
        switch (random.nextInt(5)) {
            case 0, 1, 2 -> due("say(" + n + ")", x.say(n), model.say(n));
            case 3 -> due("back(" + n + ")", x.back(n), model.back(n));
            default -> due("first(" + n + ")", x.first(n), model.first(n));
        }
    }

    private void changeAny() {
        int n = small(8);
        int m = small(6);
        int beats = someBeats();
        switch (random.nextInt(3)) {
            case 0 -> due("turn()", x.turn(), model.turn());
            case 1 -> due("beats(" + n + ", " + beats + ")", x.beats(n, beats), model.beats(n, beats));
            default -> due("be(" + n + ", " + m + ")", x.be(n, m), model.be(n, m));
        }
    }

    private void tellAny() {
        int n = small(8);
        int m = small(7);
        switch (random.nextInt(3)) {
            case 0 -> due("child(" + n + ", " + m + ")", x.child(n, m), model.child(n, m));
            case 1 -> due("as(" + n + ", " + m + ")", x.as(n, m), model.as(n, m));
            default -> due("verse(" + n + ", " + m + ")", x.verse(n, m), model.verse(n, m));
        }
    }

    private void seeAny() {
        int n = small(8);
        int beats = 1 + random.nextInt(24);
        int m = small(8);
        if (random.nextBoolean() && model.child(n, 0) >= 0 && model.rounds(1, 1, 0) == 0) {
            due("image()", x.image(), model.image());
            model.beats(0, beats);
            model.first(n);
            m = model.verse(0, 1);
            model.restore();
        }
        switch (random.nextInt(7)) {
            case 0, 1, 2 -> due("see(" + n + ", " + m + ")", x.see(n, m), model.see(n, m));
            case 3 -> due("forget()", x.forget(), model.forget());
            default -> { }
        }
        due("lengths()", x.lengths(), model.lengths());
        due("from()", x.from(), model.from());
    }

    private void wouldBeAny() {
        int n = small(8);
        int m = small(8);
        int what = small(2);
        int kind = small(5);
        int beats = someBeats();
        switch (random.nextInt(6)) {
            case 0 -> due("last(" + beats + ")", x.last(beats), model.last(beats));
            case 1 -> due("begin(" + n + ", " + beats + ")", x.begin(n, beats), model.begin(n, beats));
            case 2 -> due("stand(" + kind + ", " + beats + ")", x.stand(kind, beats), model.stand(kind, beats));
            case 3 -> due("game(" + n + ", " + m + ", " + what + ")", x.game(n, m, what), model.game(n, m, what));
            case 4 -> due("likely(" + n + ", " + what + ")", x.likely(n, what), model.likely(n, what));
            default -> roundsAny();
        }
    }

    private void roundsAny() {
        int times = small(62);
        int seed = random.nextInt();
        seed = random.nextInt(8) == 0 ? small(3) : random.nextInt(8) == 0 ? seed : seed & Integer.MAX_VALUE;
        int what = small(3);
        due("rounds(" + times + ", " + seed + ", " + what + ")", x.rounds(times, seed, what),
                model.rounds(times, seed, what));
    }

    private void rareAny() {
        switch (random.nextInt(10)) {
            case 0 -> due("image()", x.image(), model.image());
            case 1, 2, 3 -> due("restore()", x.restore(), model.restore());
            case 4, 5, 6 -> writeLetters();
            case 7 -> due("blank()", x.blank(), model.blank());
            case 8 -> writeWrongRing();
            default -> due("digest()", x.digest(), model.digest());
        }
    }
}
