import java.util.function.Consumer;
import java.util.function.IntFunction;
import java.util.function.ToLongFunction;

/** What the tests of the document's sentences share: each sentence is told, then the calls that hold it to its word. */
final class Check {
    static final int NONE = -1, UNKNOWN = -101, OUTSIDE = -102, STATE = -103, FULL = -104;
    /** Numbers that name nothing anywhere. */
    static final int[] WILD = {Integer.MIN_VALUE, -104, -2, -1, 1 << 16, Integer.MAX_VALUE};
    static final Consumer<CountOut> NOTHING = x -> { };

    private static String sentence = "";
    private static int sentences;
    private static int wrong;

    private Check() { }

    static void sentence(String text) {
        sentence = text;
        sentences++;
    }

    static void due(String call, long got, long want) {
        if (got != want) {
            wrong++;
            System.out.println("\"" + sentence + "\": " + call + " answered " + got + ", due is " + want);
        }
    }

    static void end() {
        System.out.println(sentences + " sentences, " + wrong + " answers that are not due");
        if (wrong != 0) {
            System.exit(1);
        }
    }

    static void write(CountOut x, String text) {
        for (char sign : text.toCharArray()) {
            x.letter(sign);
        }
    }

    static CountOut made(String text) {
        CountOut x = new CountOut();
        write(x, text);
        due("ring() of " + text, x.ring(), text.length() - text.indexOf(';') - 1);
        return x;
    }

    static CountOut made(String text, Consumer<CountOut> then) {
        CountOut x = made(text);
        then.accept(x);
        return x;
    }

    /** What count() tells for 0 and on. */
    static void counts(String told, CountOut x, int... want) {
        for (int what = 0; what < want.length; what++) {
            due(told + ", then count(" + what + ")", x.count(what), want[what]);
        }
    }

    /** What child() tells of each CHILD, one after the other. */
    static void children(String told, CountOut x, int what, int... want) {
        for (int child = 0; child < want.length; child++) {
            due(told + ", then child(" + child + ", " + what + ")", x.child(child, what), want[child]);
        }
    }

    /** Refused with each of these numbers, and with each that names nothing anywhere. */
    static void refusedEach(String text, Consumer<CountOut> ready, String told, int[] numbers,
            IntFunction<ToLongFunction<CountOut>> call, long want) {
        for (int number : numbers) {
            refused(text, ready, told + " with " + number, call.apply(number), want);
        }
        for (int number : WILD) {
            refused(text, ready, told + " with " + number, call.apply(number), want);
        }
    }

    static void refusedWithoutRing(String told, ToLongFunction<CountOut> call, long want) {
        refused("", NOTHING, told + " without a ring", call, want);
        refused("", x -> write(x, "01;cc"), told + " without a ring", call, want);
    }

    /** A call that tells what would be: like one that is refused it changes nothing. */
    static void told(String text, Consumer<CountOut> ready, String told, ToLongFunction<CountOut> call, long want) {
        refused(text, ready, told + " of " + text, call, want);
    }

    /** A call on an object of that RING (none: an empty text), and so made ready, that must answer so and change nothing. */
    static void refused(String text, Consumer<CountOut> ready, String told, ToLongFunction<CountOut> call, long want) {
        CountOut with = readied(text, ready);
        CountOut without = readied(text, ready);
        due(told, call.applyAsLong(with), want);
        String[] changed = Telling.all(with).split("\n");
        String[] same = Telling.all(without).split("\n");
        for (int i = 0; i < same.length; i++) {
            if (!same[i].equals(changed[i])) {
                due(told + " changed " + same[i] + " to " + changed[i] + ", and so", 1, 0);
                return;
            }
        }
    }

    private static CountOut readied(String text, Consumer<CountOut> ready) {
        CountOut x = text.isEmpty() ? new CountOut() : made(text);
        ready.accept(x);
        return x;
    }
}
