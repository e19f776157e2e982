import java.util.function.Consumer;
import java.util.function.IntFunction;
import java.util.function.ToLongFunction;

/** The sentences of what is SEEN, LENGTHS, FROM and ROUNDS (promises 20 to 24), with each refusal. */
public final class SeenSentencesTest {
    private static final String FIVE = "02,05,09;ctbsk";
    private static final int ALL = (1 << 24) - 1;

    public static void main(String[] args) {
        seeTells();
        seeFull();
        seeRefused();
        seeOrder();
        forget();
        lengthsOfNothing();
        lengthsBounds();
        lengthsAllThatIsSeen();
        lengthsAsThingsAreNow();
        lengthsWithHimFirst();
        lengthsWithoutCount();
        lengthsRefused();
        fromAtWorstFewest();
        fromLeast();
        fromNone();
        fromRefused();
        roundsDraw();
        roundsSeed();
        roundsSoManyTimes();
        roundsComeBack();
        roundsRefused();
        roundsOrder();
        Check.end();
    }

    private static void busy(CountOut x) {
        x.see(0, 1);
        x.image();
        x.first(4);
        x.say(0);
        x.see(3, 2);
        Check.write(x, "07;k");
    }

    private static final Consumer<CountOut> BUSY = SeenSentencesTest::busy;
    private static final Consumer<CountOut> SIX_SEEN = x -> {
        for (int i = 0; i < 6; i++) {
            x.see(i % 2, 1);
        }
    };

    private static void refused(String told, int[] numbers, IntFunction<ToLongFunction<CountOut>> call, int want) {
        Check.refusedEach(FIVE, BUSY, told, numbers, call, want);
    }

    private static void lengthsOf(String text, Consumer<CountOut> ready, int want) {
        Check.told(text, ready, "lengths()", CountOut::lengths, want);
    }

    /** The bits of lengths from one on, in steps. */
    private static int every(int start, int step) {
        int bits = 0;
        for (int beats = start; beats <= 24; beats += step) {
            bits += 1 << (beats - 1);
        }
        return bits;
    }

    private static void seeTells() {
        Check.sentence("see: it is SEEN: how much is (the CHILD may be OUT)");
        CountOut x = Check.made("01;cccccccc", y -> y.say(0));
        Check.due("see(7, 1)", x.see(7, 1), 1);
        Check.due("see(1, 7)", x.see(1, 7), 2);
        Check.due("see(1, 7) again", x.see(1, 7), 3);
        Check.due("see(0, 1) from one who is OUT", x.see(0, 1), 4);
        Check.due("see(1, 0) of one who is OUT", x.see(1, 0), 5);
        Check.due("see(2, 2)", x.see(2, 2), 6);
        Check.due("count(8)", x.count(8), 6);
    }

    private static void seeFull() {
        Check.sentence("SEEN (6 at most); see: FULL");
        Check.refused(FIVE, SIX_SEEN, "see(1, 2) behind six", x -> x.see(1, 2), Check.FULL);
        Check.refused(FIVE, SIX_SEEN, "see(0, 1) behind six", x -> x.see(0, 1), Check.FULL);
        CountOut x = Check.made(FIVE, SIX_SEEN);
        x.see(1, 2);
        x.see(1, 2);
        Check.due("count(8)", x.count(8), 6);
        Check.due("forget()", x.forget(), 6);
        Check.due("see(1, 2)", x.see(1, 2), 1);
        // The sixth one counts, too: by 6 BEATS of five it falls on 0.
        lengthsOf("01;ccccc", y -> {
            for (int i = 0; i < 5; i++) {
                y.see(0, 0);
            }
            y.see(0, 1);
        }, 0);
    }

    private static void seeRefused() {
        Check.sentence("see: UNKNOWN: from, out");
        refused("see(.., 0)", new int[] {5, 6, 7, 8}, n -> x -> x.see(n, 0), Check.UNKNOWN);
        refused("see(4, ..)", new int[] {5, 6, 7, 8}, n -> x -> x.see(4, n), Check.UNKNOWN);
        Check.refused("01;cc", BUSY, "see(2, 0) of two", x -> x.see(2, 0), Check.UNKNOWN);
        Check.refused("01;cc", BUSY, "see(0, 2) of two", x -> x.see(0, 2), Check.UNKNOWN);
        Check.refused("01;cccccccc", BUSY, "see(8, 0) of eight", x -> x.see(8, 0), Check.UNKNOWN);
        Check.refused("01;cccccccc", BUSY, "see(0, 8) of eight", x -> x.see(0, 8), Check.UNKNOWN);
        Check.refusedWithoutRing("see(0, 0)", x -> x.see(0, 0), Check.UNKNOWN);
    }

    private static void seeOrder() {
        Check.sentence("see: UNKNOWN is told ahead of FULL");
        Check.refused(FIVE, SIX_SEEN, "see(5, 0) behind six", x -> x.see(5, 0), Check.UNKNOWN);
        Check.refused(FIVE, SIX_SEEN, "see(0, 5) behind six", x -> x.see(0, 5), Check.UNKNOWN);
        Check.refused(FIVE, SIX_SEEN, "see(-1, -1) behind six", x -> x.see(-1, -1), Check.UNKNOWN);
    }

    private static void forget() {
        Check.sentence("forget: nothing is SEEN any more: how much was");
        Check.due("forget() without a ring", new CountOut().forget(), 0);
        Check.due("forget() of nothing", Check.made(FIVE).forget(), 0);
        for (int seen = 1; seen <= 6; seen++) {
            CountOut x = Check.made("01;ccc");
            for (int i = 0; i < seen; i++) {
                x.see(0, i % 3);
            }
            Check.due("forget()", x.forget(), seen);
            Check.due("forget() again", x.forget(), 0);
            Check.due("count(8)", x.count(8), 0);
            Check.due("lengths()", x.lengths(), ALL);
            Check.due("see(0, 1)", x.see(0, 1), 1);
            Check.due("lengths()", x.lengths(), every(2, 3));
        }
    }

    private static void lengthsOfNothing() {
        Check.sentence("LENGTHS it can have, so that all that is SEEN is so: all, if nothing is");
        lengthsOf("50;cc", Check.NOTHING, ALL);
        lengthsOf("50;ctbskctb", Check.NOTHING, ALL);
    }

    private static void lengthsBounds() {
        Check.sentence("LENGTHS (1 to 24), as bits (1 for 1, 2 for 2, 4 for 3, and so on)");
        // 1, 9 and 17; 25 would be next.
        lengthsOf("50;cccccccc", x -> x.see(0, 0), 1 + (1 << 8) + (1 << 16));
        lengthsOf("50;cccccccc", x -> x.see(0, 7), (1 << 7) + (1 << 15) + (1 << 23));
        // Of sixteen BEATS 7 and 8 are 3's; and 23 and 24.
        lengthsOf("50;tttttttt", x -> x.see(0, 3), (3 << 6) + (3 << 22));
        lengthsOf("50;tttttttt", x -> x.see(0, 0), 3 + (3 << 16));
        lengthsOf("50;tttttttt", x -> x.see(0, 7), 3 << 14);
        lengthsOf("50;cc", x -> x.see(0, 0), every(1, 2));
        lengthsOf("50;cc", x -> x.see(0, 1), every(2, 2));
        lengthsOf("50;cb", x -> x.see(0, 0), ALL);
        lengthsOf("50;cb", x -> x.see(1, 0), ALL);
    }

    private static void lengthsAllThatIsSeen() {
        Check.sentence("LENGTHS: so that all that is SEEN is so");
        lengthsOf("50;cccc", x -> { x.see(0, 1); x.see(0, 1); }, every(2, 4));
        lengthsOf("50;cccc", x -> { x.see(0, 1); x.see(3, 0); }, every(2, 4));
        lengthsOf("50;cccc", x -> { x.see(0, 1); x.see(0, 2); }, 0);
        lengthsOf("50;cb", x -> x.see(0, 1), 0);
        // From 0 by 1 or 2 it is 0, from 2 by 2 or 3: so by 2, of four.
        lengthsOf("50;tcc", x -> x.see(0, 0), every(1, 4) + every(2, 4));
        lengthsOf("50;tcc", x -> x.see(2, 0), every(2, 4) + every(3, 4));
        lengthsOf("50;tcc", x -> { x.see(0, 0); x.see(2, 0); }, every(2, 4));
    }

    private static void lengthsAsThingsAreNow() {
        Check.sentence("SEEN: as things are now (at the time of asking)");
        Consumer<CountOut> seen = x -> x.see(0, 1);
        lengthsOf("01;ccc", seen, every(2, 3));
        lengthsOf("01;ccc", seen.andThen(CountOut::turn), every(3, 3));
        lengthsOf("01;ccc", seen.andThen(x -> x.be(0, 1)), every(3, 4));
        lengthsOf("01;ccc", seen.andThen(x -> x.be(0, 2)), every(1, 2));
        lengthsOf("01;ccc", seen.andThen(x -> { x.first(2); x.say(0); }), every(2, 2));
        lengthsOf("01;ccc", seen.andThen(x -> { x.first(1); x.say(0); }), 0);
        lengthsOf("01;ccc", seen.andThen(x -> { x.first(1); x.back(x.say(0)); }), every(2, 3));
        lengthsOf("01;ccc", seen.andThen(x -> x.beats(0, 2)), every(2, 3));
        // 0 slips by 1, 4, ..; once he has SLIPPED he no longer does.
        lengthsOf("01;scc", seen, every(1, 3) + every(2, 3));
        lengthsOf("01;scc", seen.andThen(x -> x.back(x.say(0))), every(2, 3));
    }

    private static void lengthsWithHimFirst() {
        Check.sentence("SEEN: but with that CHILD first (who may be OUT)");
        lengthsOf("01;cccc", x -> { x.first(3); x.see(1, 2); }, every(2, 4));
        lengthsOf("01;cccc", x -> { x.see(1, 2); x.first(3); }, every(2, 4));
        lengthsOf("01;cccc", x -> { x.say(0); x.first(3); x.see(0, 1); }, every(1, 3));
        lengthsOf("01;cccc", x -> { x.say(0); x.turn(); x.see(0, 3); }, every(1, 3));
    }

    private static void lengthsWithoutCount() {
        Check.sentence("SEEN: one COUNT would put a told one OUT; so none has, if there is no COUNT");
        lengthsOf("01;bb", x -> x.see(0, 1), 0);
        lengthsOf("01;bb", Check.NOTHING, ALL);
        lengthsOf("01;cc", x -> { x.see(0, 1); x.say(0); }, 0);
        lengthsOf("01;cc", x -> { x.see(0, 1); x.say(0); x.forget(); }, ALL);
    }

    private static void lengthsRefused() {
        Check.sentence("lengths: STATE: no RING");
        Check.refusedWithoutRing("lengths()", CountOut::lengths, Check.STATE);
    }

    private static void fromOf(String text, Consumer<CountOut> ready, int want) {
        Check.told(text, ready, "from()", CountOut::from, want);
    }

    private static void fromAtWorstFewest() {
        Check.sentence("FROM: so that at worst fewest of these are left, by who would be OUT");
        // 24 are four rounds of five and four more: from 3 the TWIN's second BEAT is not among these, from the others it is.
        fromOf("01;cctc", Check.NOTHING, 3);
        fromOf("01;ctcc", Check.NOTHING, 2);
        // 24 are eight rounds of three, so it is alike; without the last of these it would be 1.
        fromOf("01;tc", Check.NOTHING, 0);
        // From 0, who slips and turns it about, 1 and 3 put 2 OUT; from 1 these are told apart.
        fromOf("01;kcc", x -> x.see(0, 2), 1);
        // 6, 7, 21 and 22 are left: from 0 all put 3 OUT, from 1 it is 3 and 4.
        fromOf("01;cttttttt", x -> x.see(0, 3), 1);
        // 1, 2, 5, 6 and so on are left: from 0 all put 0 OUT, from 1 half of these 1 and half 2, as from 2 it is 2 and 0.
        fromOf("01;tcc", x -> x.see(0, 0), 1);
    }

    private static void fromLeast() {
        Check.sentence("FROM: of like ones the least");
        fromOf("01;cc", Check.NOTHING, 0);
        fromOf("01;cccccccc", Check.NOTHING, 0);
        fromOf("01;cccccccc", x -> x.first(5), 0);
        fromOf("01;cccc", x -> x.see(0, 1), 0);
        // 7, 8, 23 and 24 are left, and are one TWIN's, wherever it begins.
        fromOf("01;tttttttt", x -> x.see(0, 3), 0);
        // 0 is OUT, so it is from him as from 1: a CHILD who may be first.
        fromOf("01;cccc", x -> x.say(0), 0);
    }

    private static void fromNone() {
        Check.sentence("FROM: none, if there are none (or there is no COUNT)");
        fromOf("01;cccc", x -> { x.see(0, 1); x.see(0, 2); }, Check.NONE);
        fromOf("01;bb", Check.NOTHING, Check.NONE);
        fromOf("01;bb", x -> x.see(0, 1), Check.NONE);
        fromOf("01;cc", x -> x.say(0), Check.NONE);
        fromOf("01;bbc", x -> x.say(0), Check.NONE);
        fromOf("01;bc", Check.NOTHING, 0);
    }

    private static void fromRefused() {
        Check.sentence("from: STATE: no RING");
        Check.refusedWithoutRing("from()", CountOut::from, Check.STATE);
    }

    private static long nextSeed(long seed) {
        return (1103515245L * seed + 12345L) % (1L << 31);
    }

    private static void roundsDraw() {
        Check.sentence("ROUNDS: one of a VERSE by a DRAW of how many there are: by 65536 (rounded down), its rest");
        String[] verses = {"01", "01,02", "01,02,03"};
        for (int many = 1; many <= 3; many++) {
            CountOut x = Check.made(verses[many - 1] + ";cccccccc");
            for (int i = 0; i < 150; i++) {
                int seed = i * 14_316_557 & Integer.MAX_VALUE;
                int verse = (int) (nextSeed(seed) / 65536 % many);
                Check.due("rounds(1, " + seed + ", 1)", x.rounds(1, seed, 1), verse + 1);
            }
        }
    }

    private static void roundsSeed() {
        Check.sentence("DRAWS: the next SEED each time: 1103515245 times it and 12345, its rest by 2 to the 31");
        Check.told("01;cc", Check.NOTHING, "rounds(1, 0, 2)", x -> x.rounds(1, 0, 2), 12345);
        Check.told("01;cc", Check.NOTHING, "rounds(1, 1, 2)", x -> x.rounds(1, 1, 2), 1103527590);
        // 2207030490 and 12345 are above 2 to the 31 by 59559187.
        Check.told("01;cc", Check.NOTHING, "rounds(1, 2, 2)", x -> x.rounds(1, 2, 2), 59559187);
        Check.told("01;cc", Check.NOTHING, "rounds(1, 2147483647, 2)", x -> x.rounds(1, 2147483647, 2), 1043980748);
        Check.told("01;ccc", Check.NOTHING, "rounds(2, 0, 2)", x -> x.rounds(2, 0, 2), 1406932606);
        // Five of eight rounds draw: in between all come back, and nothing is drawn for that.
        long seed = 77;
        for (int i = 0; i < 5; i++) {
            seed = nextSeed(seed);
        }
        Check.told("01;ccc", Check.NOTHING, "rounds(7, 77, 2)", x -> x.rounds(7, 77, 2), (int) seed);
    }

    private static void roundsSoManyTimes() {
        Check.sentence("ROUNDS: so many times; how often all came back; who is first then");
        // Of two one COUNT, then all come back, and so on: 1 first, 1, 0, 0.
        int[] firsts = {1, 1, 0, 0};
        CountOut x = Check.made("01;cc");
        for (int times = 1; times <= 60; times++) {
            Check.due("rounds(" + times + ", 5, 0)", x.rounds(times, 5, 0), times / 2);
            Check.due("rounds(" + times + ", 5, 1)", x.rounds(times, 5, 1), firsts[(times - 1) % 4]);
        }
        Check.told("01;cccccccc", Check.NOTHING, "rounds(7, 5, 0)", y -> y.rounds(7, 5, 0), 0);
        Check.told("01;cccccccc", Check.NOTHING, "rounds(8, 5, 0)", y -> y.rounds(8, 5, 0), 1);
        Check.told("01;cccccccc", Check.NOTHING, "rounds(60, 5, 0)", y -> y.rounds(60, 5, 0), 7);
    }

    private static void roundsComeBack() {
        Check.sentence("ROUNDS: else all come back IN, nobody has SLIPPED (first, and how it goes, stay)");
        Check.told("01;bb", x -> x.first(1), "rounds(60, 7, 0)", x -> x.rounds(60, 7, 0), 60);
        Check.told("01;bb", x -> x.first(1), "rounds(60, 7, 1)", x -> x.rounds(60, 7, 1), 1);
        Check.told("01;bb", x -> x.first(1), "rounds(60, 7, 2)", x -> x.rounds(60, 7, 2), 7);
        Check.told("01;cc", x -> x.say(0), "rounds(1, 9, 0) with one IN", x -> x.rounds(1, 9, 0), 1);
        Check.told("01;cc", x -> x.say(0), "rounds(1, 9, 2) with one IN", x -> x.rounds(1, 9, 2), 9);
        Check.told("01;bbc", Check.NOTHING, "rounds(2, 9, 0) with babies IN", x -> x.rounds(2, 9, 0), 1);
        // 1 is OUT, for 0 slips; all come back, and he slips again; else 0 would be OUT, and 1 first.
        Check.told("01;sc", Check.NOTHING, "rounds(3, 9, 1)", x -> x.rounds(3, 9, 1), 0);
        Check.told("01;sc", x -> x.back(x.say(0)), "rounds(1, 9, 1), 0 SLIPPED", x -> x.rounds(1, 9, 1), 1);
        // 0 slips and turns it back, 2 and 1 are OUT; all come back, 0 slips and turns it ONWARD, and 1 is OUT.
        Check.told("01;kcc", Check.NOTHING, "rounds(4, 9, 1)", x -> x.rounds(4, 9, 1), 2);
        // Turned, 2 is OUT, then 1; 0 is first when all come back, then he is OUT; it goes on to 2, that way.
        Check.told("01;ccc", x -> { x.first(2); x.turn(); }, "rounds(4, 9, 1)", x -> x.rounds(4, 9, 1), 2);
    }

    private static void roundsRefused() {
        Check.sentence("rounds: OUTSIDE: times (1 to 60), seed (0 at least), what; STATE: no RING");
        refused("rounds(.., 0, 0)", new int[] {0, 61, 62}, n -> x -> x.rounds(n, 0, 0), Check.OUTSIDE);
        refused("rounds(1, 0, ..)", new int[] {3, 4}, n -> x -> x.rounds(1, 0, n), Check.OUTSIDE);
        for (int seed : new int[] {-1, -2, -2147483647, Integer.MIN_VALUE}) {
            Check.refused(FIVE, BUSY, "rounds(1, " + seed + ", 2)", x -> x.rounds(1, seed, 2), Check.OUTSIDE);
        }
        Check.refusedWithoutRing("rounds(1, 0, 0)", x -> x.rounds(1, 0, 0), Check.STATE);
        Check.refusedWithoutRing("rounds(60, 2147483647, 2)", x -> x.rounds(60, 2147483647, 2), Check.STATE);
    }

    private static void roundsOrder() {
        Check.sentence("rounds: OUTSIDE is told ahead of STATE");
        Check.refusedWithoutRing("rounds(0, 0, 0)", x -> x.rounds(0, 0, 0), Check.OUTSIDE);
        Check.refusedWithoutRing("rounds(61, 0, 0)", x -> x.rounds(61, 0, 0), Check.OUTSIDE);
        Check.refusedWithoutRing("rounds(1, -1, 0)", x -> x.rounds(1, -1, 0), Check.OUTSIDE);
        Check.refusedWithoutRing("rounds(1, 0, 3)", x -> x.rounds(1, 0, 3), Check.OUTSIDE);
        Check.refusedWithoutRing("rounds(1, 0, -1)", x -> x.rounds(1, 0, -1), Check.OUTSIDE);
    }
}
