import java.util.function.Consumer;
import java.util.function.IntFunction;
import java.util.function.ToLongFunction;

/** The sentences of CHILDREN and VERSES and of what is done (promises 6 to 14), with each refusal and their order. */
public final class DoingSentencesTest {
    private static final String FIVE = "02,05,09;ctbsk";

    public static void main(String[] args) {
        childUnknown();
        childOutside();
        childTells();
        childBeats();
        childFirst();
        asUnknown();
        asOutside();
        asTells();
        verseUnknown();
        verseOutside();
        verseTells();
        sayUnknown();
        sayOrder();
        sayFull();
        backTells();
        backRefused();
        firstTells();
        firstRefused();
        turn();
        beatsTells();
        beatsRefused();
        beTells();
        beKeepsWhereHeIs();
        beRefused();
        Check.end();
    }

    /** With 0 SLIPPED, 3 OUT, two things SEEN, an IMAGE kept and something on THE PAGE: what a refusal could spoil. */
    private static void busy(CountOut x) {
        x.image();
        x.be(0, 3);
        x.first(2);
        x.say(1);
        x.see(0, 1);
        x.see(3, 0);
        x.beats(1, 44);
        Check.write(x, "07;k");
    }

    private static final Consumer<CountOut> BUSY = DoingSentencesTest::busy;

    /** No CHILD of that number: with two, with eight, and with no RING there is none at all. */
    private static void noSuchChild(String told, IntFunction<ToLongFunction<CountOut>> call) {
        int[][] above = {{2, 3, 8}, {8, 9, 16}, {5, 6, 32}};
        String[] rings = {"03;ck", "03;ctbskctb", FIVE};
        for (int i = 0; i < rings.length; i++) {
            Check.refusedEach(rings[i], BUSY, told, above[i], call, Check.UNKNOWN);
        }
        Check.refusedWithoutRing(told + " with 0", call.apply(0), Check.UNKNOWN);
    }

    private static void noSuchVerse(String told, IntFunction<ToLongFunction<CountOut>> call) {
        String[] rings = {"03;ck", "03,04;ck", "03,04,05;ctbskctb"};
        for (int verses = 1; verses <= 3; verses++) {
            Check.refusedEach(rings[verses - 1], BUSY, told, new int[] {verses, verses + 1}, call, Check.UNKNOWN);
        }
        Check.refusedWithoutRing(told + " with 0", call.apply(0), Check.UNKNOWN);
    }

    /** What is not as told: above, below and far away. */
    private static void outside(String told, int[] numbers, IntFunction<ToLongFunction<CountOut>> call) {
        Check.refusedEach(FIVE, BUSY, told, numbers, call, Check.OUTSIDE);
    }

    private static void childUnknown() {
        Check.sentence("child: UNKNOWN (ahead of OUTSIDE)");
        noSuchChild("child(.., 0)", n -> x -> x.child(n, 0));
        noSuchChild("child(.., 4)", n -> x -> x.child(n, 4));
        noSuchChild("child(.., 6)", n -> x -> x.child(n, 6));
        Check.due("child(1, 0) of two", Check.made("01;ck").child(1, 0), 4);
        Check.due("child(7, 0) of eight", Check.made("01;ccccccck").child(7, 0), 4);
    }

    private static void childOutside() {
        Check.sentence("child: what = 0 to 5; OUTSIDE");
        outside("child(0, ..)", new int[] {6, 7, 10}, n -> x -> x.child(0, n));
        CountOut x = Check.made(FIVE);
        Check.due("child(1, 0)", x.child(1, 0), 1);
        Check.due("child(0, 5)", x.child(0, 5), 1);
    }

    private static void childTells() {
        Check.sentence("child: 0 KIND, 1 whether he is IN, 2 whether he SLIPPED, 3 how many BEATS he takes");
        // 3 slips, 4 slips and turns it back to 3, who is OUT; the next one that way is 2.
        CountOut x = Check.made("04;ctbsk");
        Check.due("say(0)", x.say(0), 3);
        Check.children("say(0)", x, 0, 0, 1, 2, 3, 4);
        Check.children("say(0)", x, 1, 1, 1, 1, 0, 1);
        Check.children("say(0)", x, 2, 0, 0, 0, 1, 1);
        Check.children("say(0)", x, 3, 1, 2, 0, 1, 1);
        Check.children("say(0)", x, 5, 0, 0, 1, 0, 0);
        Check.due("child(0, 3) of a TWIN who is OUT", Check.made("01;tc", y -> y.say(0)).child(0, 3), 2);
    }

    private static void childBeats() {
        Check.sentence("BEATS for a CHILD: the fewest (1 to 60) that make him LAST; none");
        Check.children("two", Check.made("99;cc"), 4, 2, 1);
        Check.children("only one IN, by any", Check.made("01;cc", x -> x.say(0)), 4, Check.NONE, 1);
        Check.children("two babies left", Check.made("01;bcb"), 4, Check.NONE, Check.NONE, Check.NONE);
        Check.children("one baby", Check.made("01;cbk"), 4, Check.NONE, 1, Check.NONE);
        // 60 BEATS fall on 3, who points at 0; then on 3 again; then, of the two, on 2.
        CountOut at60 = Check.made("01;ctts");
        Check.due("last(60)", at60.last(60), 1);
        for (int beats = 1; beats < 60; beats++) {
            Check.due("last(" + beats + ") is 1", at60.last(beats) == 1 ? 1 : 0, 0);
        }
        Check.due("child(1, 4), the 60th", at60.child(1, 4), 60);
        CountOut at61 = Check.made("01;tttscc");
        Check.due("last(61)", at61.last(61), 0);
        for (int beats = 1; beats <= 60; beats++) {
            Check.due("last(" + beats + ") is 0", at61.last(beats) == 0 ? 1 : 0, 0);
        }
        Check.due("child(0, 4), the 61st", at61.child(0, 4), Check.NONE);
    }

    private static void childFirst() {
        Check.sentence("child: 5 whether he is first (1, 0)");
        CountOut x = Check.made("01;cccccccc", y -> y.first(7));
        Check.children("first(7)", x, 5, 0, 0, 0, 0, 0, 0, 0, 1);
        Check.due("say(0)", x.say(0), 7);
        Check.children("say(0)", x, 5, 1, 0, 0, 0, 0, 0, 0, 0);
        x.first(7);
        Check.children("first(7) of one who is OUT", x, 5, 0, 0, 0, 0, 0, 0, 0, 1);
    }

    private static void asUnknown() {
        Check.sentence("as: UNKNOWN (ahead of OUTSIDE)");
        noSuchChild("as(.., 0)", n -> x -> x.as(n, 0));
        noSuchChild("as(.., 5)", n -> x -> x.as(n, 5));
        Check.due("as(7, 0) of eight", Check.made("01;ccccccck").as(7, 0), 7);
    }

    private static void asOutside() {
        Check.sentence("as: OUTSIDE (KINDS are 0 to 4)");
        outside("as(0, ..)", new int[] {5, 6}, n -> x -> x.as(0, n));
        outside("as(4, ..)", new int[] {5, 6}, n -> x -> x.as(4, n));
    }

    private static void asTells() {
        Check.sentence("as: his number; NONE: he is none such (all are CHILDREN; a KING is SLY, too)");
        boolean[][] such = {
            {true, false, false, false, false},
            {true, true, false, false, false},
            {true, false, true, false, false},
            {true, false, false, true, false},
            {true, false, false, true, true}};
        CountOut x = Check.made("01;ctbsk");
        for (int child = 0; child < 5; child++) {
            for (int kind = 0; kind < 5; kind++) {
                Check.due("as(" + child + ", " + kind + ")", x.as(child, kind), such[child][kind] ? child : Check.NONE);
            }
        }
        x.say(0);
        Check.due("as(0, 0) of one who is OUT", x.as(0, 0), 0);
        x.be(0, 4);
        Check.due("as(0, 3) of one who is a KING now", x.as(0, 3), 0);
        x.be(0, 2);
        Check.due("as(0, 3) of one who is a BABY now", x.as(0, 3), Check.NONE);
    }

    private static void verseUnknown() {
        Check.sentence("verse: UNKNOWN (ahead of OUTSIDE)");
        noSuchVerse("verse(.., 0)", n -> x -> x.verse(n, 0));
        noSuchVerse("verse(.., 3)", n -> x -> x.verse(n, 3));
        Check.due("verse(0, 0)", Check.made("07;cc").verse(0, 0), 7);
        Check.due("verse(2, 0)", Check.made("07,08,99;cc").verse(2, 0), 99);
    }

    private static void verseOutside() {
        Check.sentence("verse: what = 0 to 2; OUTSIDE");
        outside("verse(0, ..)", new int[] {3, 4}, n -> x -> x.verse(0, n));
    }

    private static void verseTells() {
        Check.sentence("verse: 1 who would be OUT by it now (NONE), 2 LAST by it (NONE)");
        CountOut x = Check.made("01,03;ccc");
        Check.due("verse(0, 1)", x.verse(0, 1), 0);
        Check.due("verse(0, 2)", x.verse(0, 2), 2);
        Check.due("verse(1, 1)", x.verse(1, 1), 2);
        Check.due("verse(1, 2)", x.verse(1, 2), 1);
        Check.counts("asked", x, 3, 3, 2, 0, 0, 1, 0);
        x.say(0);
        x.say(0);
        Check.due("verse(1, 1) with one IN", x.verse(1, 1), Check.NONE);
        Check.due("verse(1, 2) with one IN", x.verse(1, 2), 2);
        CountOut babies = Check.made("01;bb");
        Check.due("verse(0, 0) of babies", babies.verse(0, 0), 1);
        Check.due("verse(0, 1) of babies", babies.verse(0, 1), Check.NONE);
        Check.due("verse(0, 2) of babies", babies.verse(0, 2), Check.NONE);
    }

    private static void sayUnknown() {
        Check.sentence("say: UNKNOWN");
        noSuchVerse("say(..)", n -> x -> x.say(n));
        CountOut x = Check.made("01,02,03;cccc");
        Check.due("say(2)", x.say(2), 2);
        Check.due("say(0)", x.say(0), 3);
        Check.due("count(6)", x.count(6), 2);
    }

    private static void sayOrder() {
        Check.sentence("say: UNKNOWN is told ahead of STATE");
        for (int verse : new int[] {-1, 1, 2}) {
            Check.refused("01;bb", Check.NOTHING, "say(" + verse + ")", x -> x.say(verse), Check.UNKNOWN);
            Check.refused("01;cc", x -> x.say(0), "say(" + verse + ")", x -> x.say(verse), Check.UNKNOWN);
        }
    }

    /** 999 COUNTS take more calls than are promised of an object; the sentence is held to all the same. */
    private static void sayFull() {
        Check.sentence("say: FULL: 999 were (told behind UNKNOWN and STATE)");
        Consumer<CountOut> full = x -> {
            for (int i = 0; i < 999; i++) {
                x.back(x.say(0));
            }
        };
        CountOut x = Check.made("01;cc", full);
        Check.due("count(6)", x.count(6), 999);
        Check.due("verse(0, 1)", x.verse(0, 1), 1);
        Check.refused("01;cc", full, "say(0) behind 999", y -> y.say(0), Check.FULL);
        Check.refused("01;cc", full, "say(1) behind 999", y -> y.say(1), Check.UNKNOWN);
        Check.refused("01;cc", full.andThen(y -> { y.be(0, 2); y.be(1, 2); }), "say(0) of babies", y -> y.say(0), Check.STATE);
        CountOut before = Check.made("01;cc", y -> {
            for (int i = 0; i < 998; i++) {
                y.back(y.say(0));
            }
        });
        Check.due("say(0) behind 998", before.say(0), 0);
        Check.due("count(6)", before.count(6), 999);
        Check.write(before, "01;cc");
        before.ring();
        Check.due("say(0) of another ring", before.say(0), 0);
    }

    private static void backTells() {
        Check.sentence("back: one who is OUT comes back IN: how many are");
        CountOut x = Check.made("01;cccccccc");
        for (int out = 0; out < 7; out++) {
            Check.due("say(0)", x.say(0), out);
        }
        for (int child = 6; child >= 0; child--) {
            Check.due("back(" + child + ")", x.back(child), 8 - child);
            Check.due("child(" + child + ", 1)", x.child(child, 1), 1);
        }
        Check.counts("back", x, 8, 8, 1, 0, 7, 1, 7, 8);
        Check.due("say(0)", x.say(0), 7);
        Check.due("back(7)", x.back(7), 8);
    }

    private static void backRefused() {
        Check.sentence("back: UNKNOWN; STATE: he is IN");
        noSuchChild("back(..)", n -> x -> x.back(n));
        for (int child = 0; child < 5; child++) {
            int number = child;
            Check.refused(FIVE, Check.NOTHING, "back(" + child + ") of one who is IN", x -> x.back(number), Check.STATE);
        }
        Check.refused("01;cc", x -> x.back(x.say(0)), "back(0) again", x -> x.back(0), Check.STATE);
    }

    private static void firstTells() {
        Check.sentence("first: one is first (who may be OUT): who was");
        CountOut x = Check.made("01;cccccccc");
        Check.due("first(7)", x.first(7), 0);
        Check.due("first(7) again", x.first(7), 7);
        Check.due("first(0)", x.first(0), 7);
        Check.due("say(0)", x.say(0), 0);
        Check.due("first(0) of one who is OUT", x.first(0), 1);
        Check.due("count(4)", x.count(4), 0);
        Check.due("count(1)", x.count(1), 7);
        Check.due("first(3)", x.first(3), 0);
    }

    private static void firstRefused() {
        Check.sentence("first: UNKNOWN");
        noSuchChild("first(..)", n -> x -> x.first(n));
    }

    private static void turn() {
        Check.sentence("turn: it goes the other way: which way it went (1 ONWARD, 0); STATE: no RING");
        CountOut x = Check.made("02;ccc");
        for (int way = 0; way < 4; way++) {
            Check.due("count(5)", x.count(5), 1 - way % 2);
            Check.due("verse(0, 1)", x.verse(0, 1), 1 + way % 2);
            Check.due("turn()", x.turn(), 1 - way % 2);
        }
        CountOut one = Check.made("01;cc", y -> y.say(0));
        Check.due("turn() with one IN", one.turn(), 1);
        Check.due("count(5)", one.count(5), 0);
        Check.refusedWithoutRing("turn()", CountOut::turn, Check.STATE);
    }

    private static void beatsTells() {
        Check.sentence("beats: a VERSE has so many BEATS: how many it had");
        CountOut x = Check.made("02,05,09;cc");
        Check.due("beats(2, 99)", x.beats(2, 99), 9);
        Check.due("beats(2, 1)", x.beats(2, 1), 99);
        Check.due("beats(2, 1) again", x.beats(2, 1), 1);
        Check.due("beats(0, 98)", x.beats(0, 98), 2);
        Check.due("verse(0, 0)", x.verse(0, 0), 98);
        Check.due("verse(1, 0)", x.verse(1, 0), 5);
        Check.due("verse(2, 0)", x.verse(2, 0), 1);
    }

    private static void beatsRefused() {
        Check.sentence("beats: UNKNOWN; OUTSIDE: beats (1 to 99)");
        noSuchVerse("beats(.., 1)", n -> x -> x.beats(n, 1));
        noSuchVerse("beats(.., 0)", n -> x -> x.beats(n, 0));
        noSuchVerse("beats(.., 100)", n -> x -> x.beats(n, 100));
        outside("beats(0, ..)", new int[] {0, 100, 101}, n -> x -> x.beats(0, n));
        outside("beats(2, ..)", new int[] {0, 100, 101}, n -> x -> x.beats(2, n));
    }

    private static void beTells() {
        Check.sentence("be: a CHILD is of another KIND (0 to 4): of which he was");
        for (int was = 0; was <= 4; was++) {
            for (int kind = 0; kind <= 4; kind++) {
                CountOut x = Check.made("01;ccccccc" + "ctbsk".charAt(was));
                Check.due("be(7, " + kind + ")", x.be(7, kind), was);
                CountOut due = Check.made("01;ccccccc" + "ctbsk".charAt(kind));
                Check.due("child(7, 0)", x.child(7, 0), kind);
                Check.due("digest() of " + was + " who is " + kind, x.digest(), due.digest());
            }
        }
    }

    private static void beKeepsWhereHeIs() {
        Check.sentence("be: IN or not as he is; he has not SLIPPED");
        for (int kind = 0; kind <= 4; kind++) {
            // 0 and 1 slip and 2 is OUT; then 1 is, who has SLIPPED.
            CountOut x = Check.made("01;sscc");
            Check.due("say(0)", x.say(0), 2);
            x.first(1);
            Check.due("say(0)", x.say(0), 1);
            Check.due("be(1, " + kind + ") of one who is OUT", x.be(1, kind), 3);
            Check.children("be(1, " + kind + ")", x, 1, 1, 0, 0, 1);
            Check.children("be(1, " + kind + ")", x, 2, 1, 0, 0, 0);
            Check.due("be(0, " + kind + ") of one who is IN", x.be(0, kind), 3);
            Check.children("be(0, " + kind + ")", x, 1, 1, 0, 0, 1);
            Check.children("be(0, " + kind + ")", x, 2, 0, 0, 0, 0);
            Check.due("count(4)", x.count(4), 3);
        }
    }

    private static void beRefused() {
        Check.sentence("be: UNKNOWN; OUTSIDE: kind (0 to 4)");
        noSuchChild("be(.., 0)", n -> x -> x.be(n, 0));
        noSuchChild("be(.., 5)", n -> x -> x.be(n, 5));
        noSuchChild("be(.., -1)", n -> x -> x.be(n, -1));
        outside("be(0, ..)", new int[] {5, 6}, n -> x -> x.be(0, n));
        outside("be(4, ..)", new int[] {5, 6}, n -> x -> x.be(4, n));
    }
}
