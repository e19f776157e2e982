import java.util.function.Consumer;
import java.util.function.IntFunction;
import java.util.function.ToLongFunction;

/** The sentences of what would be: LAST, BEGIN, STAND, GAME, LIKELY (promises 15 to 19), with each refusal. */
public final class WouldBeSentencesTest {
    private static final String FIVE = "02,05,09;ctbsk";
    private static final int[] NO_BEATS = {0, 100, 101};
    private static final int[] NO_KINDS = {5, 6};

    public static void main(String[] args) {
        lastIsTheOne();
        lastIsNone();
        lastAsThingsAre();
        lastRefused();
        beginBits();
        beginOnlyOfThoseIn();
        beginRefused();
        standPlaces();
        standOfKinds();
        standNine();
        standAsThingsAre();
        standMovesTheOthers();
        standRefused();
        gameComesTo();
        gameLeastVerse();
        gameInTurn();
        gameByAllSayings();
        gameWithoutCount();
        gameRefused();
        likelyParts();
        likelyEnds();
        likelyOnlyOne();
        likelyByAllDraws();
        likelyRefused();
        askedAgainWhenChanged();
        askedAgainOfAnotherRing();
        Check.end();
    }

    /** 1 is OUT, 4 and 3 have SLIPPED, something is SEEN, kept and written: what a refusal could spoil. */
    private static void busy(CountOut x) {
        x.see(0, 1);
        x.image();
        x.first(4);
        x.beats(0, 1);
        x.say(0);
        x.see(3, 2);
        Check.write(x, "07;k");
    }

    private static final Consumer<CountOut> BUSY = WouldBeSentencesTest::busy;

    private static void refused(String told, int[] numbers, IntFunction<ToLongFunction<CountOut>> call, int want) {
        Check.refusedEach(FIVE, BUSY, told, numbers, call, want);
    }

    private static void told(String text, String told, ToLongFunction<CountOut> call, int want) {
        Check.told(text, Check.NOTHING, told, call, want);
    }

    private static void lastIsTheOne() {
        Check.sentence("LAST: the one who is IN then");
        told("50;cc", "last(1)", x -> x.last(1), 1);
        told("50;cc", "last(2)", x -> x.last(2), 0);
        told("50;cc", "last(99)", x -> x.last(99), 1);
        told("50;cccccccc", "last(1)", x -> x.last(1), 7);
        told("50;cccccccc", "last(2)", x -> x.last(2), 0);
        told("50;cccccccc", "last(3)", x -> x.last(3), 6);
        told("50;cccccccb", "last(99)", x -> x.last(99), 7);
        told("50;bccccccc", "last(98)", x -> x.last(98), 0);
        Check.told("50;cc", x -> x.say(0), "last(1) with one IN", x -> x.last(1), 0);
        Check.told("50;cb", x -> x.say(0), "last(1) with a baby IN", x -> x.last(1), 1);
    }

    private static void lastIsNone() {
        Check.sentence("LAST: none, if more are");
        told("50;bb", "last(1)", x -> x.last(1), Check.NONE);
        told("50;bcb", "last(99)", x -> x.last(99), Check.NONE);
        told("50;bbbbbbbb", "last(7)", x -> x.last(7), Check.NONE);
        told("50;bbkkkkkk", "last(7)", x -> x.last(7), Check.NONE);
        Check.told("01;bcb", x -> { x.be(0, 0); x.say(0); x.be(0, 2); }, "last(7) with a baby OUT", x -> x.last(7), 2);
    }

    private static void lastAsThingsAre() {
        Check.sentence("LAST by so many BEATS (as things are)");
        Check.told("01;ccc", x -> x.first(1), "last(1) with 1 first", x -> x.last(1), 0);
        Check.told("01;ccc", CountOut::turn, "last(1) turned", x -> x.last(1), 1);
        Check.told("01;ccc", x -> { x.first(2); x.say(0); }, "last(1) with 2 OUT", x -> x.last(1), 1);
        told("01;scc", "last(1)", x -> x.last(1), 0);
        Check.told("01;scc", x -> { x.say(0); x.back(1); x.first(0); }, "last(1), 0 SLIPPED", x -> x.last(1), 2);
    }

    private static void lastRefused() {
        Check.sentence("last: OUTSIDE: beats (1 to 99); STATE: no RING");
        refused("last(..)", NO_BEATS, n -> x -> x.last(n), Check.OUTSIDE);
        Check.refusedWithoutRing("last(0)", x -> x.last(0), Check.OUTSIDE);
        Check.refusedWithoutRing("last(100)", x -> x.last(100), Check.OUTSIDE);
        Check.refusedWithoutRing("last(1)", x -> x.last(1), Check.STATE);
        Check.refusedWithoutRing("last(99)", x -> x.last(99), Check.STATE);
    }

    private static void beginBits() {
        Check.sentence("BEGIN: which ones, if they were first, make that one LAST, as bits");
        for (int child = 0; child < 8; child++) {
            int number = child;
            told("50;cccccccc", "begin(" + child + ", 1)", x -> x.begin(number, 1), 1 << (child + 1) % 8);
            told("50;cccccccc", "begin(" + child + ", 2)", x -> x.begin(number, 2), 1 << child);
        }
        told("50;cc", "begin(0, 99)", x -> x.begin(0, 99), 2);
        told("50;cccccccb", "begin(7, 3)", x -> x.begin(7, 3), 255);
        told("50;cccccccb", "begin(0, 3)", x -> x.begin(0, 3), 0);
        told("50;bbbbbbbb", "begin(0, 3)", x -> x.begin(0, 3), 0);
        Check.told("50;ccc", x -> { x.turn(); x.first(2); }, "begin(0, 1) turned", x -> x.begin(0, 1), 4);
    }

    private static void beginOnlyOfThoseIn() {
        Check.sentence("BEGIN: (they are IN)");
        // From 0, who is OUT, it would be as from 1.
        Check.told("01;ccc", x -> x.say(0), "begin(2, 1), 0 is OUT", x -> x.begin(2, 1), 2);
        Check.told("01;ccc", x -> x.say(0), "begin(0, 1), 0 is OUT", x -> x.begin(0, 1), 0);
        Check.told("01;ccc", x -> { x.say(0); x.first(0); }, "begin(2, 1), 0 is first", x -> x.begin(2, 1), 2);
        Check.told("01;ccc", x -> { x.say(0); x.say(0); }, "begin(2, 9), the only one", x -> x.begin(2, 9), 4);
        Check.told("01;ccc", x -> { x.say(0); x.say(0); }, "begin(0, 9), one who is OUT", x -> x.begin(0, 9), 0);
    }

    private static void beginRefused() {
        Check.sentence("begin: UNKNOWN: child; OUTSIDE: beats (1 to 99)");
        refused("begin(.., 1)", new int[] {5, 6, 7, 8}, n -> x -> x.begin(n, 1), Check.UNKNOWN);
        refused("begin(.., 0)", new int[] {5, 6, 7, 8}, n -> x -> x.begin(n, 0), Check.UNKNOWN);
        refused("begin(4, ..)", NO_BEATS, n -> x -> x.begin(4, n), Check.OUTSIDE);
        Check.refused("01;cc", BUSY, "begin(2, 1) of two", x -> x.begin(2, 1), Check.UNKNOWN);
        Check.refused("01;cccccccc", BUSY, "begin(8, 1) of eight", x -> x.begin(8, 1), Check.UNKNOWN);
        Check.refusedWithoutRing("begin(0, 1)", x -> x.begin(0, 1), Check.UNKNOWN);
        Check.refusedWithoutRing("begin(0, 0)", x -> x.begin(0, 0), Check.UNKNOWN);
    }

    private static void standPlaces() {
        Check.sentence("STAND: ahead of which CHILD (0 and on; as many as there are: behind all), as bits");
        told("50;cc", "stand(0, 1)", x -> x.stand(0, 1), 1 + 4);
        told("50;cc", "stand(0, 2)", x -> x.stand(0, 2), 1 + 4);
        told("50;cc", "stand(0, 3)", x -> x.stand(0, 3), 2);
        told("50;cc", "stand(0, 99)", x -> x.stand(0, 99), 2);
        Check.told("50;cc", x -> x.first(1), "stand(0, 1) with 1 first", x -> x.stand(0, 1), 2);
        Check.told("50;cc", CountOut::turn, "stand(0, 1) turned", x -> x.stand(0, 1), 2);
    }

    private static void standOfKinds() {
        Check.sentence("STAND: a new one of that KIND");
        told("50;cc", "stand(1, 1)", x -> x.stand(1, 1), 1 + 4);
        told("50;cc", "stand(1, 2)", x -> x.stand(1, 2), 0);
        told("50;cc", "stand(2, 99)", x -> x.stand(2, 99), 7);
        told("50;cb", "stand(2, 1)", x -> x.stand(2, 1), 0);
        told("50;cb", "stand(4, 1)", x -> x.stand(4, 1), 0);
        told("50;cc", "stand(3, 1)", x -> x.stand(3, 1), 7);
        told("50;cc", "stand(3, 2)", x -> x.stand(3, 2), 1 + 4);
        told("50;cc", "stand(4, 1)", x -> x.stand(4, 1), 7);
    }

    private static void standNine() {
        Check.sentence("STAND: (There may be nine then.)");
        told("50;cccccccc", "stand(0, 1)", x -> x.stand(0, 1), 1 + 256);
        Check.told("50;cccccccc", x -> x.first(7), "stand(0, 1) with 7 first", x -> x.stand(0, 1), 128);
        Check.told("50;cccccccc", CountOut::turn, "stand(0, 1) turned", x -> x.stand(0, 1), 2);
        told("50;cccccccc", "stand(2, 99)", x -> x.stand(2, 99), 511);
        told("50;cccccccc", "stand(3, 1)", x -> x.stand(3, 1), 511);
        told("50;bccccccc", "stand(2, 1)", x -> x.stand(2, 1), 0);
    }

    private static void standAsThingsAre() {
        Check.sentence("STAND: (all as things are, the same one first)");
        // 0 has SLIPPED and 1 is OUT; with 0 first he is OUT by 1 BEAT, then 2 and 3 are.
        Consumer<CountOut> slipped = x -> { x.say(0); x.first(0); };
        Check.told("01;sccc", slipped, "stand(0, 1), 0 SLIPPED", x -> x.stand(0, 1), 1 + 16);
        // 0 is OUT and first: it begins with the next one behind him, who may be the new one.
        Check.told("01;ccc", x -> { x.say(0); x.first(0); }, "stand(0, 1), 0 is OUT", x -> x.stand(0, 1), 1 + 8);
        Check.told("01;ccc", x -> { x.say(0); x.say(0); }, "stand(0, 1), one is IN", x -> x.stand(0, 1), 7 + 8);
        Check.told("01;ccc", x -> { x.say(0); x.say(0); }, "stand(0, 2), one is IN", x -> x.stand(0, 2), 0);
    }

    private static void standMovesTheOthers() {
        Check.sentence("STAND: ahead of others, who are of their KINDS still");
        // Ahead of 0: 0 and the TWIN's first BEAT, he is OUT; then the new one and 0.
        Check.told("50;ct", Check.NOTHING, "stand(0, 2)", x -> x.stand(0, 2), 1 + 4);
        // 0 slips, so the new one is OUT wherever he stands.
        Check.told("50;sc", Check.NOTHING, "stand(0, 1)", x -> x.stand(0, 1), 0);
        // The KING turns it back to 0; from the new one, or round to him, the KING is next.
        Check.told("50;ck", Check.NOTHING, "stand(0, 2)", x -> x.stand(0, 2), 1 + 4);
        // Both are BABIES then, and nobody is the only one.
        Check.told("50;cb", Check.NOTHING, "stand(2, 1)", x -> x.stand(2, 1), 0);
        // The BABY is left by any.
        Check.told("50;bc", Check.NOTHING, "stand(0, 1)", x -> x.stand(0, 1), 0);
    }

    private static void standRefused() {
        Check.sentence("stand: OUTSIDE: kind (0 to 4), beats (1 to 99); STATE: no RING");
        refused("stand(.., 1)", NO_KINDS, n -> x -> x.stand(n, 1), Check.OUTSIDE);
        refused("stand(0, ..)", NO_BEATS, n -> x -> x.stand(0, n), Check.OUTSIDE);
        refused("stand(4, ..)", NO_BEATS, n -> x -> x.stand(4, n), Check.OUTSIDE);
        Check.refusedWithoutRing("stand(5, 1)", x -> x.stand(5, 1), Check.OUTSIDE);
        Check.refusedWithoutRing("stand(-1, 1)", x -> x.stand(-1, 1), Check.OUTSIDE);
        Check.refusedWithoutRing("stand(0, 0)", x -> x.stand(0, 0), Check.OUTSIDE);
        Check.refusedWithoutRing("stand(4, 100)", x -> x.stand(4, 100), Check.OUTSIDE);
        Check.refusedWithoutRing("stand(0, 1)", x -> x.stand(0, 1), Check.STATE);
        Check.refusedWithoutRing("stand(4, 99)", x -> x.stand(4, 99), Check.STATE);
    }

    private static void gameOf(String text, int a, int b, int comes, int verse) {
        told(text, "game(" + a + ", " + b + ", 0)", x -> x.game(a, b, 0), comes);
        told(text, "game(" + a + ", " + b + ", 1)", x -> x.game(a, b, 1), verse);
    }

    private static void gameComesTo() {
        Check.sentence("GAME: who says wins, if the other's CHILD is OUT first; he has lost, if his own is");
        gameOf("01;cc", 1, 0, 2, 0);
        gameOf("01;cc", 0, 1, 0, 0);
        gameOf("02;cc", 0, 1, 2, 0);
        gameOf("01,02;cc", 0, 1, 2, 1);
        gameOf("01,02;cc", 1, 0, 2, 0);
        gameOf("99,98,02;cccccccc", 0, 1, 2, 1);
        gameOf("08;cccccccc", 0, 7, 2, 0);
        gameOf("08;cccccccc", 7, 0, 0, 0);
        gameOf("01;cb", 0, 1, 0, 0);
        gameOf("01;cb", 1, 0, 2, 0);
    }

    private static void gameLeastVerse() {
        Check.sentence("GAME: which VERSE he says first: the least that is as good");
        gameOf("01,02,02;cc", 0, 1, 2, 1);
        gameOf("01,03,02;cc", 0, 1, 2, 2);
        gameOf("02,01,04;cc", 0, 1, 2, 0);
        gameOf("01,03,05;cc", 0, 1, 0, 0);
        gameOf("02,04,06;cc", 1, 0, 0, 0);
        gameOf("09,05,01;bbc", 0, 1, 1, 0);
    }

    private static void gameInTurn() {
        Check.sentence("GAME: two say VERSES in turn, each time a COUNT of a VERSE of those there are");
        // By 1 BEAT he himself is OUT; by 2 it is 1, and the other one puts 0 OUT by 2.
        gameOf("01,02;ccc", 0, 2, 0, 0);
        gameOf("02;ccc", 0, 2, 0, 0);
        gameOf("02;ccc", 2, 0, 2, 0);
        gameOf("03;ccc", 0, 1, 0, 0);
        gameOf("03;ccc", 1, 0, 2, 0);
        // By 3 BEATS 2 is OUT, and the other one puts 0 OUT by 3; by 4 it is 0 at once.
        gameOf("03,04;ccc", 0, 1, 0, 0);
        // 0 and 1 go out by one BEAT each, then it is the first one's turn again, and it falls on 2.
        gameOf("01;cccc", 3, 2, 2, 0);
        gameOf("01;cccc", 2, 3, 0, 0);
        gameOf("01;cccccccc", 7, 6, 2, 0);
        gameOf("01;cccccccc", 6, 7, 0, 0);
    }

    /** Each saying tried on a new object, by the calls alone; slow, and as the sentence has it. */
    private static void gameByAllSayings() {
        Check.sentence("GAME: what the first one can come to (2 he wins, 1 nobody, 0 he loses)");
        for (String text : new String[] {"01,02;cccccccc", "02,03;cccccccc", "03,01;kcsctcsk", "01,02,03;skbtc"}) {
            CountOut x = Check.made(text);
            for (int a = 0; a < x.count(0); a++) {
                for (int b = 0; b < x.count(0); b++) {
                    if (a != b) {
                        int[] due = played(text, new int[8], 0, a, b);
                        Check.due("game(" + a + ", " + b + ", 0) of " + text, x.game(a, b, 0), due[0]);
                        Check.due("game(" + a + ", " + b + ", 1) of " + text, x.game(a, b, 1), due[1]);
                    }
                }
            }
        }
    }

    /** What he comes to who says next, behind those that are said, and by which VERSE. */
    private static int[] played(String text, int[] said, int many, int own, int others) {
        int[] best = {-1, Check.NONE};
        for (int verse = 0; verse < (text.indexOf(';') + 1) / 3; verse++) {
            CountOut x = Check.made(text);
            said[many] = verse;
            int out = Check.NONE;
            for (int i = 0; i <= many; i++) {
                out = x.say(said[i]);
            }
            if (out == Check.STATE) {
                return new int[] {1, Check.NONE};
            }
            int comes = out == own ? 0 : out == others ? 2 : 2 - played(text, said, many + 1, others, own)[0];
            if (comes > best[0]) {
                best = new int[] {comes, verse};
            }
        }
        return best;
    }

    private static void gameWithoutCount() {
        Check.sentence("GAME: nobody does, if there is no COUNT any more; none, if there is no COUNT");
        gameOf("01,02,03;bb", 0, 1, 1, Check.NONE);
        gameOf("01;bbbbbbbb", 7, 0, 1, Check.NONE);
        gameOf("01;bbc", 0, 1, 1, 0);
        gameOf("01,02;bbcccccc", 0, 1, 1, 0);
        gameOf("01;ckbb", 2, 3, 1, 0);
    }

    private static void gameRefused() {
        Check.sentence("game: UNKNOWN: a, b, or they are the same; OUTSIDE; STATE: one of them is OUT");
        int[] none = {5, 8};
        int[] all = {0, 1, 2, 3, 4};
        refused("game(.., 4, 0)", none, n -> x -> x.game(n, 4, 0), Check.UNKNOWN);
        refused("game(4, .., 0)", none, n -> x -> x.game(4, n, 0), Check.UNKNOWN);
        refused("game(.., 4, 2)", none, n -> x -> x.game(n, 4, 2), Check.UNKNOWN);
        refused("game(4, .., -1)", none, n -> x -> x.game(4, n, -1), Check.UNKNOWN);
        refused("game(.., 1, 0), 1 is OUT", none, n -> x -> x.game(n, 1, 0), Check.UNKNOWN);
        refused("game(1, .., 0), 1 is OUT", none, n -> x -> x.game(1, n, 0), Check.UNKNOWN);
        refused("game(.., .., 0) of the same", all, n -> x -> x.game(n, n, 0), Check.UNKNOWN);
        refused("game(.., .., 9) of the same", all, n -> x -> x.game(n, n, 9), Check.UNKNOWN);
        refused("game(0, 4, ..)", new int[] {2, 3}, n -> x -> x.game(0, 4, n), Check.OUTSIDE);
        refused("game(0, 1, ..), 1 is OUT", new int[] {2, 3}, n -> x -> x.game(0, 1, n), Check.OUTSIDE);
        for (int what = 0; what <= 1; what++) {
            int number = what;
            Check.refused(FIVE, BUSY, "game(0, 1, " + what + "), 1 is OUT", x -> x.game(0, 1, number), Check.STATE);
            Check.refused(FIVE, BUSY, "game(1, 0, " + what + "), 1 is OUT", x -> x.game(1, 0, number), Check.STATE);
        }
        Check.refused("01;ccc", x -> { x.say(0); x.say(0); }, "game(0, 1) both OUT", x -> x.game(0, 1, 0), Check.STATE);
        Check.refusedWithoutRing("game(0, 1, 0)", x -> x.game(0, 1, 0), Check.UNKNOWN);
        Check.refusedWithoutRing("game(0, 1, 2)", x -> x.game(0, 1, 2), Check.UNKNOWN);
    }

    private static void likelyOf(String text, Consumer<CountOut> ready, int... parts) {
        for (int child = 0; child < parts.length / 2; child++) {
            int number = child;
            Check.told(text, ready, "likely(" + child + ", 0)", x -> x.likely(number, 0), parts[2 * child]);
            Check.told(text, ready, "likely(" + child + ", 1)", x -> x.likely(number, 1), parts[2 * child + 1]);
        }
    }

    private static void likelyParts() {
        Check.sentence("LIKELY: if each COUNT has 1 to 3 BEATS, each as likely, in lowest terms");
        likelyOf("50;cc", Check.NOTHING, 1, 3, 2, 3);
        likelyOf("50;cc", x -> x.first(1), 2, 3, 1, 3);
        likelyOf("50;tc", Check.NOTHING, 1, 3, 2, 3);
        likelyOf("50;ct", Check.NOTHING, 2, 3, 1, 3);
        // Three ninths each.
        likelyOf("50;ccc", Check.NOTHING, 1, 3, 1, 3, 1, 3);
        // 0 is OUT by 1 and 2, 1 by 3; of 1 and 2 it is 1 by 1 and 2, of 2 and 0 it is 2.
        likelyOf("50;ttt", Check.NOTHING, 2, 9, 2, 9, 5, 9);
        // 0 slips when it falls on him, and 1 is OUT by 1 to 3.
        likelyOf("50;sc", Check.NOTHING, 1, 1, 0, 1);
    }

    private static void likelyEnds() {
        Check.sentence("likely: (0 of 1); one who is left for sure is 1 of 1");
        likelyOf("01;cbs", Check.NOTHING, 0, 1, 1, 1, 0, 1);
        likelyOf("01;cc", x -> x.say(0), Check.STATE, Check.STATE, 1, 1);
        likelyOf("01;cccccccb", Check.NOTHING, 0, 1, 0, 1, 0, 1, 0, 1, 0, 1, 0, 1, 0, 1, 1, 1);
    }

    private static void likelyOnlyOne() {
        Check.sentence("LIKELY: how likely he is the only one who is IN then");
        likelyOf("50;bb", Check.NOTHING, 0, 1, 0, 1);
        likelyOf("50;bcb", Check.NOTHING, 0, 1, 0, 1, 0, 1);
        likelyOf("50;bbbbbbbb", Check.NOTHING, 0, 1, 0, 1, 0, 1, 0, 1, 0, 1, 0, 1, 0, 1, 0, 1);
    }

    /** All ways that seven draws can go, said in turn, each on a new object. */
    private static void likelyByAllDraws() {
        Check.sentence("LIKELY: as long as there are any");
        for (String kinds : new String[] {"cccccccc", "tttttttt", "sctkctsk", "kkk", "tskc", "ctbsk"}) {
            int[] left = new int[8];
            for (int way = 0; way < 2187; way++) {
                CountOut x = Check.made("01,02,03;" + kinds);
                int rest = way;
                for (int count = 0; count < 7; count++) {
                    x.say(rest % 3);
                    rest /= 3;
                }
                for (int child = 0; child < kinds.length() && x.count(1) == 1; child++) {
                    left[child] += x.child(child, 1);
                }
            }
            CountOut x = Check.made("50;" + kinds);
            for (int child = 0; child < kinds.length(); child++) {
                int below = 2187;
                int above = left[child];
                while (below > 1 && above % 3 == 0) {
                    below /= 3;
                    above /= 3;
                }
                Check.due("likely(" + child + ", 0) of " + kinds, x.likely(child, 0), above);
                Check.due("likely(" + child + ", 1) of " + kinds, x.likely(child, 1), below);
            }
        }
    }

    private static void likelyRefused() {
        Check.sentence("likely: UNKNOWN: child; OUTSIDE; STATE: he is OUT");
        refused("likely(.., 0)", new int[] {5, 8}, n -> x -> x.likely(n, 0), Check.UNKNOWN);
        refused("likely(.., 2)", new int[] {5, 8}, n -> x -> x.likely(n, 2), Check.UNKNOWN);
        refused("likely(4, ..)", new int[] {2, 3}, n -> x -> x.likely(4, n), Check.OUTSIDE);
        Consumer<CountOut> out = BUSY.andThen(x -> { x.first(0); x.say(0); });
        Check.refused("01;ccc", out, "likely(0, 0) of one who is OUT", x -> x.likely(0, 0), Check.STATE);
        Check.refused("01;ccc", out, "likely(0, 1) of one who is OUT", x -> x.likely(0, 1), Check.STATE);
        Check.refused("01;ccc", out, "likely(0, 2) of one who is OUT", x -> x.likely(0, 2), Check.OUTSIDE);
        Check.refused("01;ccc", out, "likely(0, -1) of one who is OUT", x -> x.likely(0, -1), Check.OUTSIDE);
        Check.refused("01;ccc", out, "likely(3, 0)", x -> x.likely(3, 0), Check.UNKNOWN);
        Check.refusedWithoutRing("likely(0, 0)", x -> x.likely(0, 0), Check.UNKNOWN);
        Check.refusedWithoutRing("likely(0, 2)", x -> x.likely(0, 2), Check.UNKNOWN);
    }

    private static String asked(CountOut x) {
        StringBuilder told = new StringBuilder();
        for (int child = 0; child < x.count(0); child++) {
            told.append(x.child(child, 4)).append(' ');
            told.append(x.likely(child, 0)).append('/').append(x.likely(child, 1)).append(' ');
        }
        return told.toString();
    }

    /** Who was asked ahead of a change answers behind it as one who was not. */
    private static void askedAgain(String text, Consumer<CountOut> ready, String told, Consumer<CountOut> change) {
        CountOut again = Check.made(text, ready);
        String before = asked(again);
        change.accept(again);
        String got = asked(again);
        String want = asked(Check.made(text, ready.andThen(change)));
        Check.due(told + " of " + text + ", from " + before + "to " + got + "not " + want, got.equals(want) ? 0 : 1, 0);
    }

    private static void askedAgainWhenChanged() {
        Check.sentence("BEATS and LIKELY: as things are, behind each change");
        for (String text : new String[] {"01,02;ccc", "01,02;ctbsk", "03,01;skct", "02,05;cccccccc", "02,05;skctctks"}) {
            for (int child = 0; child < 8; child++) {
                int number = child;
                for (int kind = 0; kind <= 4; kind++) {
                    int other = kind;
                    askedAgain(text, Check.NOTHING, "be(" + child + ", " + kind + ")", x -> x.be(number, other));
                }
                askedAgain(text, Check.NOTHING, "first(" + child + ")", x -> x.first(number));
                askedAgain(text, x -> { x.say(0); x.say(1); }, "back(" + child + ")", x -> x.back(number));
            }
            askedAgain(text, Check.NOTHING, "turn()", CountOut::turn);
            askedAgain(text, Check.NOTHING, "say(0)", x -> x.say(0));
            askedAgain(text, x -> x.say(0), "say(1)", x -> x.say(1));
            askedAgain(text, x -> { x.image(); x.say(0); }, "restore()", CountOut::restore);
            // Just who SLIPPED is otherwise.
            askedAgain(text, Check.NOTHING, "say(0), back and first", x -> {
                x.back(x.say(0));
                x.first(0);
            });
        }
    }

    private static void askedAgainOfAnotherRing() {
        Check.sentence("BEATS and LIKELY: as things are, in another RING");
        String[] kinds = {"cc", "ct", "tc", "cb", "sc", "kc", "ks", "ccc", "cct", "bcc", "ssc", "kcc", "cccccccc", "tccccccc",
            "ccccccct", "cccccccb", "cccccccs", "ccccccck", "bccccccc", "sccccccc", "kccccccc", "tttttttt", "ssssssss"};
        for (String one : kinds) {
            for (String other : kinds) {
                askedAgain("01;" + one, Check.NOTHING, "ring() of " + other, x -> {
                    Check.write(x, "01;" + other);
                    x.ring();
                });
            }
        }
    }
}
