import java.util.function.Consumer;

/** The sentences that bound a COUNT (terms; promise 9), each with cases that were counted by hand. */
public final class CountSentencesTest {
    private static final Consumer<CountOut> TURNED = CountOut::turn;

    public static void main(String[] args) {
        beginsWithFirst();
        beginsWithNext();
        oneBeatEach();
        twoBeatsForTwins();
        noBeatForBabies();
        slyOneSlips();
        slipsOnlyOnce();
        noOtherToPointAt();
        pointsPastBabiesAndOut();
        slyLikewise();
        allSlip();
        kingTurns();
        kingsTurnTwice();
        kingTurnsOnlyBySlipping();
        isOut();
        nextIsFirst();
        lessThanTwo();
        allBabies();
        slippedStays();
        Check.end();
    }

    /** One COUNT of VERSE 0: who is OUT, who is first then, which way it goes, who SLIPPED (as bits). */
    private static void said(String text, Consumer<CountOut> ready, int out, int first, int way, int slipped) {
        CountOut x = Check.made(text, ready);
        String told = "say(0) of " + text;
        Check.due("verse(0, 1) of " + text, x.verse(0, 1), out);
        Check.due(told, x.say(0), out);
        Check.due(told + ", then count(4)", x.count(4), first);
        Check.due(told + ", then count(5)", x.count(5), way);
        Check.due(told + ", then count(3)", x.count(3), Integer.bitCount(slipped));
        for (int child = 0; child < x.count(0); child++) {
            Check.due(told + ", then child(" + child + ", 2)", x.child(child, 2), slipped >> child & 1);
        }
    }

    private static void said(String text, int out, int first, int way, int slipped) {
        said(text, Check.NOTHING, out, first, way, slipped);
    }

    private static void beginsWithFirst() {
        Check.sentence("it begins with the first one, if he is IN");
        said("01;cccc", 0, 1, 1, 0);
        said("01;cccc", x -> x.first(2), 2, 3, 1, 0);
        said("01;cccc", x -> x.first(3), 3, 0, 1, 0);
        said("01;cccc", x -> { x.first(3); x.turn(); }, 3, 2, 0, 0);
        said("01;cccc", TURNED, 0, 3, 0, 0);
    }

    private static void beginsWithNext() {
        Check.sentence("else with the next one who is, as the count goes");
        said("01;cccc", x -> { x.say(0); x.first(0); }, 1, 2, 1, 0);
        said("01;cccc", x -> { x.say(0); x.first(0); x.turn(); }, 3, 2, 0, 0);
        said("01;cccc", x -> { x.first(3); x.say(0); x.first(3); }, 0, 1, 1, 0);
        said("01;cccc", x -> { x.first(3); x.say(0); x.first(3); x.turn(); }, 2, 1, 0, 0);
        said("01;cccc", x -> { x.say(0); x.say(0); x.first(0); }, 2, 3, 1, 0);
        said("01;cccc", x -> { x.say(0); x.say(0); x.first(1); x.turn(); }, 3, 2, 0, 0);
        said("02;cccc", x -> { x.beats(0, 1); x.say(0); x.first(0); x.beats(0, 2); }, 2, 3, 1, 0);
    }

    private static void oneBeatEach() {
        Check.sentence("each one takes 1 BEAT, and so on to the next one who is IN (the first one behind the last)");
        for (int beats = 1; beats <= 99; beats++) {
            String two = "" + beats / 10 + beats % 10;
            int out = (beats - 1) % 8;
            said(two + ";cccccccc", out, (out + 1) % 8, 1, 0);
            said(two + ";cccccccc", TURNED, (8 - out) % 8, (15 - out) % 8, 0, 0);
            said(two + ";cc", (beats - 1) % 2, beats % 2, 1, 0);
        }
        said("03;cccc", x -> { x.first(1); x.say(0); x.first(1); }, 0, 1, 1, 0);
    }

    private static void twoBeatsForTwins() {
        Check.sentence("a TWIN 2");
        int[] outs = {0, 1, 1, 2, 0, 1, 1, 2, 0};
        for (int beats = 1; beats <= 9; beats++) {
            said("0" + beats + ";ctc", outs[beats - 1], (outs[beats - 1] + 1) % 3, 1, 0);
        }
        for (int beats = 1; beats <= 8; beats++) {
            said("0" + beats + ";tt", (beats - 1) / 2 % 2, (beats - 1) / 2 % 2 ^ 1, 1, 0);
        }
        said("01;cct", x -> { x.first(2); x.turn(); }, 2, 1, 0, 0);
        said("02;cct", x -> { x.first(2); x.turn(); }, 2, 1, 0, 0);
        said("03;cct", x -> { x.first(2); x.turn(); }, 1, 0, 0, 0);
        said("16;tttttttt", 7, 0, 1, 0);
        said("17;tttttttt", 0, 1, 1, 0);
        said("99;tttttttt", 1, 2, 1, 0);
    }

    private static void noBeatForBabies() {
        Check.sentence("a BABY none");
        said("01;bc", 1, 0, 1, 0);
        said("99;bc", 1, 0, 1, 0);
        said("01;bcbc", 1, 2, 1, 0);
        said("02;bcbc", 3, 0, 1, 0);
        said("03;bcbc", 1, 2, 1, 0);
        said("01;bcbc", TURNED, 3, 2, 0, 0);
        said("99;bbbbbbbc", 7, 0, 1, 0);
        said("01;cbbbbbbb", x -> x.first(1), 0, 1, 1, 0);
        said("03;btb", 1, 2, 1, 0);
    }

    private static void slyOneSlips() {
        Check.sentence("if that is one who is SLY and has not SLIPPED, he has SLIPPED, and it STOPS at the next one instead");
        said("01;sc", 1, 0, 1, 1);
        said("02;cs", 0, 1, 1, 2);
        said("01;sccc", 1, 2, 1, 1);
        said("01;sccc", TURNED, 3, 2, 0, 1);
        said("04;cccs", 0, 1, 1, 8);
        said("02;sccc", 1, 2, 1, 0);
        said("01;stcc", 1, 2, 1, 1);
    }

    private static void slipsOnlyOnce() {
        Check.sentence("one who slips away once");
        said("01;sccc", x -> { x.say(0); x.first(0); }, 0, 2, 1, 1);
        said("01;kccc", x -> { x.say(0); x.first(0); }, 0, 2, 0, 1);
        said("01;sccc", x -> { x.say(0); x.first(0); x.be(0, 3); }, 2, 3, 1, 1);
    }

    private static void noOtherToPointAt() {
        Check.sentence("and another one is IN who is no BABY");
        said("01;sb", 0, 1, 1, 0);
        said("01;kb", 0, 1, 1, 0);
        said("07;bkbbbbbb", 1, 2, 1, 0);
        said("01;kb", TURNED, 0, 1, 0, 0);
        said("01;csb", x -> x.say(0), 1, 2, 1, 0);
        said("01;ckb", x -> x.say(0), 1, 2, 1, 0);
        said("01;scb", 1, 2, 1, 1);
        said("01;ssb", x -> { x.say(0); x.be(1, 3); }, 1, 2, 1, 1);
    }

    private static void pointsPastBabiesAndOut() {
        Check.sentence("at the next one who is IN and no BABY, as the count goes");
        said("01;sbbc", 3, 0, 1, 1);
        said("01;sbbc", TURNED, 3, 2, 0, 1);
        said("01;scbb", TURNED, 1, 0, 0, 1);
        said("02;bcsb", 1, 2, 1, 4);
        said("01;cscc", x -> { x.first(2); x.say(0); x.first(1); }, 3, 0, 1, 2);
        said("01;cscc", x -> { x.say(0); x.first(1); x.turn(); }, 3, 2, 0, 2);
    }

    private static void slyLikewise() {
        Check.sentence("if that one is SLY likewise, so on");
        said("01;ssc", 2, 0, 1, 3);
        said("01;sssssssc", 7, 0, 1, 127);
        said("01;csss", x -> x.first(1), 0, 1, 1, 14);
        said("01;sbsc", 3, 0, 1, 5);
        said("01;sscc", x -> { x.say(0); x.first(0); x.be(0, 3); }, 1, 3, 1, 3);
    }

    private static void allSlip() {
        Check.sentence("so on, till it comes back to one who has SLIPPED");
        said("01;ss", 0, 1, 1, 3);
        said("02;ss", 1, 0, 1, 3);
        said("05;ssssssss", 4, 5, 1, 255);
        said("05;ssssssss", TURNED, 4, 3, 0, 255);
        said("01;sbs", 0, 1, 1, 5);
    }

    private static void kingTurns() {
        Check.sentence("a KING by that turns it about, at once: the next one is that way");
        said("01;kccc", 3, 2, 0, 1);
        said("01;kccc", TURNED, 1, 2, 1, 1);
        said("04;ccck", 2, 1, 0, 8);
        said("01;kc", 1, 0, 0, 1);
        said("01;kbcb", 2, 1, 0, 1);
        // 1, a KING, turns it to 0, who is SLY likewise and points on to 3.
        said("02;skcc", 3, 2, 0, 3);
    }

    private static void kingsTurnTwice() {
        Check.sentence("it goes the other way from then on; a second KING turns it again");
        said("01;kk", 0, 1, 1, 3);
        said("01;kkc", 2, 1, 0, 1);
        said("01;kck", 0, 1, 1, 5);
        said("01;kcck", 0, 1, 1, 9);
        said("01;kkkk", 0, 1, 1, 9);
    }

    private static void kingTurnsOnlyBySlipping() {
        Check.sentence("by that: a KING on whom it falls without slipping turns nothing");
        said("01;kb", 0, 1, 1, 0);
        said("02;kc", 1, 0, 1, 0);
        said("01;kccc", x -> { x.say(0); x.first(0); x.turn(); }, 0, 1, 1, 1);
    }

    private static void isOut() {
        Check.sentence("at whom it STOPS in the end, he is OUT");
        CountOut x = Check.made("03;ctbsk");
        Check.due("say(0)", x.say(0), 1);
        Check.children("say(0)", x, 1, 1, 0, 1, 1, 1);
        Check.counts("say(0)", x, 5, 4, 1, 0, 2, 1, 1, 3);
    }

    private static void nextIsFirst() {
        Check.sentence("the next one, as the count goes then, who is IN is first");
        said("08;cccccccc", 7, 0, 1, 0);
        said("01;cccccccc", TURNED, 0, 7, 0, 0);
        said("01;cbcc", 0, 1, 1, 0);
        said("01;ccbc", x -> { x.first(1); x.say(0); x.first(0); }, 0, 2, 1, 0);
        said("01;cc", 0, 1, 1, 0);
        said("01;kcc", 2, 1, 0, 1);
    }

    private static void lessThanTwo() {
        Check.sentence("there is no COUNT if less than two are IN");
        CountOut two = Check.made("05;cc");
        Check.due("verse(0, 1) with two IN", two.verse(0, 1), 0);
        Check.due("say(0) with two IN", two.say(0), 0);
        Check.due("verse(0, 1) with one IN", two.verse(0, 1), Check.NONE);
        Check.due("verse(0, 2) with one IN", two.verse(0, 2), 1);
        Check.refused("05;cc", x -> x.say(0), "say(0) with one IN", x -> x.say(0), Check.STATE);
        Check.refused("05;sk", x -> x.say(0), "say(0) with one IN", x -> x.say(0), Check.STATE);
        Check.due("back(0)", two.back(0), 2);
        Check.due("say(0) with two IN again", two.say(0), 1);
    }

    private static void allBabies() {
        Check.sentence("there is no COUNT if all who are IN are BABIES");
        Check.refused("05;bb", Check.NOTHING, "say(0) of two", x -> x.say(0), Check.STATE);
        Check.refused("05;bbbbbbbb", Check.NOTHING, "say(0) of eight", x -> x.say(0), Check.STATE);
        CountOut x = Check.made("05;bbc");
        Check.due("say(0) with one who is none", x.say(0), 2);
        Check.due("verse(0, 1)", x.verse(0, 1), Check.NONE);
        Check.due("verse(0, 2)", x.verse(0, 2), Check.NONE);
        Check.refused("05;bbc", y -> y.say(0), "say(0) of those IN", y -> y.say(0), Check.STATE);
        x.be(0, 0);
        Check.due("say(0) of a child and a baby", x.say(0), 0);
    }

    private static void slippedStays() {
        Check.sentence("who is OUT may come back IN (whether he SLIPPED stays)");
        CountOut x = Check.made("01;sc");
        Check.due("say(0)", x.say(0), 1);
        x.back(1);
        x.first(0);
        Check.due("say(0)", x.say(0), 0);
        Check.due("child(0, 2) of one who is OUT", x.child(0, 2), 1);
        Check.due("back(0)", x.back(0), 2);
        Check.due("child(0, 2)", x.child(0, 2), 1);
        Check.due("child(1, 2)", x.child(1, 2), 0);
        x.first(0);
        Check.due("say(0) on him", x.say(0), 0);
    }
}
