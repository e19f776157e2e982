import java.util.function.LongSupplier;

/** Each promise of the document by cases worked out by hand: ordinary ones, the edges, and each refusal. */
public final class PromisesTest {
    private static final int NONE = -1, UNKNOWN = -101, OUTSIDE = -102, STATE = -103, FULL = -104;
    private static final int[] WILD = {Integer.MIN_VALUE, -1, Integer.MAX_VALUE};
    private static int wrong;
    private static int promise;

    public static void main(String[] args) {
        newObject();
        letter();
        blank();
        fault();
        ring();
        child();
        as();
        verse();
        say();
        sayOfKinds();
        sayIsFull();
        back();
        first();
        turn();
        beats();
        be();
        last();
        begin();
        stand();
        game();
        likely();
        see();
        forget();
        lengths();
        from();
        rounds();
        image();
        restore();
        count();
        digest();
        refusalsWithoutRing();
        System.out.println(wrong == 0 ? "all promises hold" : wrong + " answers are not as promised");
        if (wrong != 0) {
            System.exit(1);
        }
    }

    private static void due(String what, long got, long want) {
        if (got != want) {
            wrong++;
            System.out.println("promise " + promise + ": " + what + " answered " + got + ", due is " + want);
        }
    }

    /** A refusal, which changes nothing that can be told. */
    private static void refused(CountOut x, String what, LongSupplier call, long want) {
        long before = x.digest();
        int lengths = x.lengths();
        due(what, call.getAsLong(), want);
        due(what + ", then digest()", x.digest(), before);
        due(what + ", then lengths()", x.lengths(), lengths);
    }

    private static void write(CountOut x, String text) {
        for (char sign : text.toCharArray()) {
            x.letter(sign);
        }
    }

    private static CountOut made(String text) {
        CountOut x = new CountOut();
        write(x, text);
        due("ring() of " + text, x.ring(), text.length() - text.indexOf(';') - 1);
        return x;
    }

    private static void newObject() {
        promise = 1;
        CountOut x = new CountOut();
        for (int what = 0; what <= 10; what++) {
            due("count(" + what + ")", x.count(what), 0);
        }
        due("child(0, 0)", x.child(0, 0), UNKNOWN);
        due("verse(0, 0)", x.verse(0, 0), UNKNOWN);
        due("turn()", x.turn(), STATE);
    }

    private static void letter() {
        promise = 2;
        CountOut x = new CountOut();
        refused(x, "letter(31)", () -> x.letter(31), OUTSIDE);
        refused(x, "letter(127)", () -> x.letter(127), OUTSIDE);
        for (int code : WILD) {
            refused(x, "letter(" + code + ")", () -> x.letter(code), OUTSIDE);
        }
        due("letter(32)", x.letter(32), 1);
        due("letter(126)", x.letter(126), 2);
        for (int size = 3; size <= 20; size++) {
            due("letter(99)", x.letter(99), size);
        }
        refused(x, "letter(99) behind 20", () -> x.letter(99), FULL);
        refused(x, "letter(31) behind 20", () -> x.letter(31), OUTSIDE);
        due("count(9)", x.count(9), 20);
    }

    private static void blank() {
        promise = 3;
        CountOut x = new CountOut();
        due("blank() of none", x.blank(), 0);
        write(x, "03;c");
        due("blank()", x.blank(), 4);
        due("blank() again", x.blank(), 0);
        due("letter(48)", x.letter(48), 1);
    }

    private static void faultOf(String text, int place) {
        CountOut x = new CountOut();
        write(x, text);
        long before = x.digest();
        due("fault() of " + text, x.fault(), place);
        due("fault() of " + text + ", then digest()", x.digest(), before);
    }

    private static void fault() {
        promise = 4;
        String[] whole = {"", "0", "9", "01", "10", "99", "01,", "01;", "01;c", "01;ctbsk", "12,34", "12,34,",
            "12,34,56", "12,34,56;", "12,34,56;cccccccc", "01;kk"};
        for (String text : whole) {
            faultOf(text, text.length());
        }
        faultOf("c", 0);
        faultOf(",", 0);
        faultOf(";", 0);
        faultOf(" 1", 0);
        faultOf("1;", 1);
        faultOf("1c", 1);
        faultOf("00", 1);
        faultOf("012", 2);
        faultOf("01c", 2);
        faultOf("01:", 2);
        faultOf("01,,", 3);
        faultOf("01,;", 3);
        faultOf("12,00;cc", 4);
        faultOf("01;;", 3);
        faultOf("01;1", 3);
        faultOf("01;cC", 4);
        faultOf("01;cc,", 5);
        faultOf("01;cc;", 5);
        faultOf("12,34,56,", 8);
        faultOf("12;ccccccccc", 11);
        faultOf("12,34,56;ccccccccc", 17);
        faultOf("00;cx", 1);
    }

    private static void ring() {
        promise = 5;
        for (String text : new String[] {"", "1", "12", "12,", "12;", "12;c", "12;cx", "12;ccccccccc", "00;cc"}) {
            CountOut x = new CountOut();
            write(x, text);
            refused(x, "ring() of " + text, x::ring, STATE);
            due("count(9)", x.count(9), text.length());
        }
        CountOut x = made("07,90,01;ctbsk");
        due("count(9)", x.count(9), 0);
        due("count(10)", x.count(10), 1);
        due("verse(0, 0)", x.verse(0, 0), 7);
        due("verse(1, 0)", x.verse(1, 0), 90);
        due("verse(2, 0)", x.verse(2, 0), 1);
        for (int kind = 0; kind < 5; kind++) {
            due("child(" + kind + ", 0)", x.child(kind, 0), kind);
            due("child(" + kind + ", 1)", x.child(kind, 1), 1);
            due("child(" + kind + ", 2)", x.child(kind, 2), 0);
        }
        due("count(4)", x.count(4), 0);
        due("count(5)", x.count(5), 1);
        anotherRing();
    }

    private static void anotherRing() {
        CountOut x = made("01,02,03;skt");
        x.image();
        x.say(0);
        x.first(2);
        x.turn();
        x.see(0, 1);
        write(x, "05;cc");
        due("ring()", x.ring(), 2);
        int[] counts = {2, 2, 1, 0, 0, 1, 0, 2, 0, 0, 2};
        for (int what = 0; what <= 10; what++) {
            due("count(" + what + ") of another ring", x.count(what), counts[what]);
        }
        due("child(2, 0)", x.child(2, 0), UNKNOWN);
        due("verse(1, 0)", x.verse(1, 0), UNKNOWN);
        due("restore()", x.restore(), STATE);
    }

    private static void child() {
        promise = 6;
        CountOut x = made("01;cts");
        int[] kinds = {0, 1, 3};
        int[] takes = {1, 2, 1};
        for (int child = 0; child < 3; child++) {
            due("child(" + child + ", 0)", x.child(child, 0), kinds[child]);
            due("child(" + child + ", 1)", x.child(child, 1), 1);
            due("child(" + child + ", 2)", x.child(child, 2), 0);
            due("child(" + child + ", 3)", x.child(child, 3), takes[child]);
            due("child(" + child + ", 5)", x.child(child, 5), child == 0 ? 1 : 0);
        }
        due("child(3, 0)", x.child(3, 0), UNKNOWN);
        due("child(3, 9)", x.child(3, 9), UNKNOWN);
        for (int wild : WILD) {
            refused(x, "child(" + wild + ", 0)", () -> x.child(wild, 0), UNKNOWN);
            refused(x, "child(0, " + wild + ")", () -> x.child(0, wild), OUTSIDE);
        }
        refused(x, "child(0, 6)", () -> x.child(0, 6), OUTSIDE);
        // Of five and by 2 BEATS the one at place 2 is left; by 1 the last one is.
        CountOut five = made("01;ccccc");
        due("child(4, 4)", five.child(4, 4), 1);
        due("child(2, 4)", five.child(2, 4), 2);
        five.say(0);
        due("child(0, 1)", five.child(0, 1), 0);
        due("child(0, 3) of one who is OUT", five.child(0, 3), 1);
        due("child(0, 4) of one who is OUT", five.child(0, 4), NONE);
        due("child(1, 5)", five.child(1, 5), 1);
        CountOut baby = made("01;bct");
        due("child(0, 4) of the only baby", baby.child(0, 4), 1);
        due("child(1, 4) beside a baby", baby.child(1, 4), NONE);
        due("child(0, 3) of a baby", baby.child(0, 3), 0);
        due("child(1, 4) of two babies", made("01;bbc").child(1, 4), NONE);
        farBeats();
    }

    /** Against the whole turns that make the least answer far, the answer is looked for by last(). */
    private static void farBeats() {
        CountOut x = made("01;cccccccc");
        for (int child = 0; child < 8; child++) {
            int fewest = NONE;
            for (int beats = 60; beats >= 1; beats--) {
                fewest = x.last(beats) == child ? beats : fewest;
            }
            due("child(" + child + ", 4) of eight", x.child(child, 4), fewest);
        }
    }

    private static void as() {
        promise = 7;
        CountOut x = made("01;ctbsk");
        for (int child = 0; child < 5; child++) {
            for (int kind = 0; kind < 5; kind++) {
                boolean such = kind == 0 || kind == child || kind == 3 && child == 4;
                due("as(" + child + ", " + kind + ")", x.as(child, kind), such ? child : NONE);
            }
        }
        due("as(5, 9)", x.as(5, 9), UNKNOWN);
        refused(x, "as(5, 0)", () -> x.as(5, 0), UNKNOWN);
        refused(x, "as(0, 5)", () -> x.as(0, 5), OUTSIDE);
        for (int wild : WILD) {
            refused(x, "as(" + wild + ", 0)", () -> x.as(wild, 0), UNKNOWN);
            refused(x, "as(0, " + wild + ")", () -> x.as(0, wild), OUTSIDE);
        }
    }

    private static void verse() {
        promise = 8;
        CountOut x = made("02,99;ccccc");
        due("verse(0, 0)", x.verse(0, 0), 2);
        due("verse(1, 0)", x.verse(1, 0), 99);
        due("verse(0, 1)", x.verse(0, 1), 1);
        due("verse(1, 1)", x.verse(1, 1), 3);
        due("verse(0, 2)", x.verse(0, 2), 2);
        due("verse(0, 1) again", x.verse(0, 1), 1);
        due("count(1)", x.count(1), 5);
        due("verse(2, 7)", x.verse(2, 7), UNKNOWN);
        refused(x, "verse(2, 0)", () -> x.verse(2, 0), UNKNOWN);
        refused(x, "verse(0, 3)", () -> x.verse(0, 3), OUTSIDE);
        for (int wild : WILD) {
            refused(x, "verse(" + wild + ", 0)", () -> x.verse(wild, 0), UNKNOWN);
            refused(x, "verse(0, " + wild + ")", () -> x.verse(0, wild), OUTSIDE);
        }
        CountOut babies = made("02;bb");
        due("verse(0, 1) of babies", babies.verse(0, 1), NONE);
        due("verse(0, 2) of babies", babies.verse(0, 2), NONE);
    }

    private static void say() {
        promise = 9;
        CountOut x = made("03;cccc");
        int[] outs = {2, 1, 3};
        int[] firsts = {3, 3, 0};
        for (int i = 0; i < 3; i++) {
            due("say(0)", x.say(0), outs[i]);
            due("count(4)", x.count(4), firsts[i]);
            due("count(6)", x.count(6), i + 1);
            due("child(" + outs[i] + ", 1)", x.child(outs[i], 1), 0);
        }
        refused(x, "say(0) with one IN", () -> x.say(0), STATE);
        refused(x, "say(1)", () -> x.say(1), UNKNOWN);
        for (int wild : WILD) {
            refused(x, "say(" + wild + ")", () -> x.say(wild), UNKNOWN);
        }
        CountOut babies = made("03;bb");
        refused(babies, "say(0) of babies", () -> babies.say(0), STATE);
    }

    /** One COUNT of the first VERSE: who is OUT, who is first then, which way it goes, who SLIPPED, as bits. */
    private static void saidOnce(String text, boolean turned, int out, int first, int way, int slipped) {
        CountOut x = made(text);
        if (turned) {
            x.turn();
        }
        String told = (turned ? "turned, " : "") + "say(0) of " + text;
        due(told, x.say(0), out);
        due(told + ", then count(4)", x.count(4), first);
        due(told + ", then count(5)", x.count(5), way);
        for (int child = 0; child < x.count(0); child++) {
            due(told + ", then child(" + child + ", 2)", x.child(child, 2), slipped >> child & 1);
        }
    }

    private static void sayOfKinds() {
        saidOnce("01;tcc", false, 0, 1, 1, 0);
        saidOnce("02;tcc", false, 0, 1, 1, 0);
        saidOnce("03;tcc", false, 1, 2, 1, 0);
        saidOnce("05;tcc", false, 0, 1, 1, 0);
        saidOnce("02;ttt", false, 0, 1, 1, 0);
        saidOnce("03;cct", false, 2, 0, 1, 0);
        saidOnce("04;cct", false, 2, 0, 1, 0);
        saidOnce("02;cct", true, 2, 1, 0, 0);
        saidOnce("04;cct", true, 1, 0, 0, 0);
        saidOnce("01;bcc", false, 1, 2, 1, 0);
        saidOnce("02;bcc", false, 2, 0, 1, 0);
        saidOnce("03;bcc", false, 1, 2, 1, 0);
        saidOnce("99;bc", false, 1, 0, 1, 0);
        saidOnce("01;scc", false, 1, 2, 1, 1);
        saidOnce("01;scc", true, 2, 1, 0, 1);
        saidOnce("01;ssc", false, 2, 0, 1, 3);
        saidOnce("01;sss", false, 0, 1, 1, 7);
        saidOnce("02;sss", false, 1, 2, 1, 7);
        saidOnce("01;sbc", false, 2, 0, 1, 1);
        saidOnce("01;sb", false, 0, 1, 1, 0);
        saidOnce("01;kb", false, 0, 1, 1, 0);
        saidOnce("01;kcc", false, 2, 1, 0, 1);
        saidOnce("01;kcc", true, 1, 2, 1, 1);
        saidOnce("01;kbc", false, 2, 1, 0, 1);
        saidOnce("01;kk", false, 0, 1, 1, 3);
        saidOnce("01;kkc", false, 2, 1, 0, 1);
        saidOnce("02;ckk", false, 0, 2, 0, 2);
        saidOnce("03;ckk", false, 2, 0, 1, 6);
        saidOnce("01;kck", false, 0, 1, 1, 5);
        saidOnce("03;skc", false, 2, 0, 1, 0);
        saidOnce("01;skc", false, 0, 2, 0, 3);
        slipsOnce();
    }

    private static void slipsOnce() {
        CountOut x = made("01;scc");
        due("say(0)", x.say(0), 1);
        x.first(0);
        due("say(0) on one who SLIPPED", x.say(0), 0);
        due("child(0, 2)", x.child(0, 2), 1);
    }

    private static void sayIsFull() {
        CountOut x = made("01;cc");
        for (int i = 1; i <= 999; i++) {
            int out = x.say(0);
            due("count(6)", x.count(6), i);
            x.back(out);
        }
        refused(x, "say(0) behind 999", () -> x.say(0), FULL);
        refused(x, "say(1) behind 999", () -> x.say(1), UNKNOWN);
        x.be(0, 2);
        x.be(1, 2);
        refused(x, "say(0) behind 999, of babies", () -> x.say(0), STATE);
    }

    private static void back() {
        promise = 10;
        CountOut x = made("01;scc");
        due("say(0)", x.say(0), 1);
        due("say(0)", x.say(0), 2);
        refused(x, "back(0) of one who is IN", () -> x.back(0), STATE);
        due("back(2)", x.back(2), 2);
        due("child(2, 1)", x.child(2, 1), 1);
        due("count(4)", x.count(4), 0);
        due("say(0)", x.say(0), 0);
        due("back(0)", x.back(0), 2);
        due("child(0, 2)", x.child(0, 2), 1);
        due("back(1)", x.back(1), 3);
        refused(x, "back(3)", () -> x.back(3), UNKNOWN);
        for (int wild : WILD) {
            refused(x, "back(" + wild + ")", () -> x.back(wild), UNKNOWN);
        }
    }

    private static void first() {
        promise = 11;
        CountOut x = made("01;ccc");
        due("first(2)", x.first(2), 0);
        due("first(1)", x.first(1), 2);
        due("say(0)", x.say(0), 1);
        due("first(1) of one who is OUT", x.first(1), 2);
        due("count(4)", x.count(4), 1);
        due("child(1, 5)", x.child(1, 5), 1);
        due("verse(0, 1)", x.verse(0, 1), 2);
        x.turn();
        due("verse(0, 1) turned", x.verse(0, 1), 0);
        refused(x, "first(3)", () -> x.first(3), UNKNOWN);
        for (int wild : WILD) {
            refused(x, "first(" + wild + ")", () -> x.first(wild), UNKNOWN);
        }
    }

    private static void turn() {
        promise = 12;
        CountOut x = made("02;ccc");
        due("verse(0, 1)", x.verse(0, 1), 1);
        due("turn()", x.turn(), 1);
        due("verse(0, 1) turned", x.verse(0, 1), 2);
        due("count(5)", x.count(5), 0);
        due("turn() again", x.turn(), 0);
        due("count(5)", x.count(5), 1);
    }

    private static void beats() {
        promise = 13;
        CountOut x = made("02,05;ccc");
        due("beats(0, 99)", x.beats(0, 99), 2);
        due("beats(0, 1)", x.beats(0, 1), 99);
        due("beats(0, 1) again", x.beats(0, 1), 1);
        due("verse(0, 0)", x.verse(0, 0), 1);
        due("verse(1, 0)", x.verse(1, 0), 5);
        due("say(0)", x.say(0), 0);
        due("beats(2, 0)", x.beats(2, 0), UNKNOWN);
        refused(x, "beats(2, 1)", () -> x.beats(2, 1), UNKNOWN);
        refused(x, "beats(0, 0)", () -> x.beats(0, 0), OUTSIDE);
        refused(x, "beats(0, 100)", () -> x.beats(0, 100), OUTSIDE);
        for (int wild : WILD) {
            refused(x, "beats(" + wild + ", 1)", () -> x.beats(wild, 1), UNKNOWN);
            refused(x, "beats(0, " + wild + ")", () -> x.beats(0, wild), OUTSIDE);
        }
    }

    private static void be() {
        promise = 14;
        CountOut x = made("01;scc");
        due("say(0)", x.say(0), 1);
        due("be(0, 3) of the same", x.be(0, 3), 3);
        due("child(0, 2)", x.child(0, 2), 0);
        due("be(1, 1) of one who is OUT", x.be(1, 1), 0);
        due("child(1, 1)", x.child(1, 1), 0);
        int was = 1;
        for (int kind = 4; kind >= 0; kind--) {
            due("be(1, " + kind + ")", x.be(1, kind), was);
            due("child(1, 0)", x.child(1, 0), kind);
            due("as(1, 3)", x.as(1, 3), kind >= 3 ? 1 : NONE);
            due("child(1, 3)", x.child(1, 3), kind == 1 ? 2 : kind == 2 ? 0 : 1);
            was = kind;
        }
        due("be(3, 5)", x.be(3, 5), UNKNOWN);
        refused(x, "be(3, 0)", () -> x.be(3, 0), UNKNOWN);
        refused(x, "be(0, 5)", () -> x.be(0, 5), OUTSIDE);
        for (int wild : WILD) {
            refused(x, "be(" + wild + ", 0)", () -> x.be(wild, 0), UNKNOWN);
            refused(x, "be(0, " + wild + ")", () -> x.be(0, wild), OUTSIDE);
        }
    }

    private static void last() {
        promise = 15;
        CountOut x = made("01;ccccccc");
        due("last(3) of seven", x.last(3), 3);
        due("last(2) of seven", x.last(2), 6);
        due("last(1) of seven", x.last(1), 6);
        due("last(2) of five", made("01;ccccc").last(2), 2);
        due("last(2) of eight", made("01;cccccccc").last(2), 0);
        x.turn();
        due("last(3) turned", x.last(3), 4);
        x.first(2);
        due("last(3) turned from 2", x.last(3), 6);
        due("last(99) of a baby and others", made("01;tbs").last(99), 1);
        due("last(1) of two babies and one", made("01;bcb").last(1), NONE);
        CountOut one = made("01;cc");
        one.say(0);
        due("last(50) with one IN", one.last(50), 1);
        refused(x, "last(0)", () -> x.last(0), OUTSIDE);
        refused(x, "last(100)", () -> x.last(100), OUTSIDE);
        for (int wild : WILD) {
            refused(x, "last(" + wild + ")", () -> x.last(wild), OUTSIDE);
        }
    }

    private static void begin() {
        promise = 16;
        CountOut x = made("01;ccccc");
        for (int child = 0; child < 5; child++) {
            due("begin(" + child + ", 2) of five", x.begin(child, 2), 1 << (child + 3) % 5);
        }
        CountOut out = made("01;ccc");
        out.say(0);
        // By 1 BEAT of 1 and 2 he is OUT who is first; 0 is OUT and so is not looked at, though from him it is as from 1.
        due("begin(2, 1)", out.begin(2, 1), 2);
        due("begin(1, 1)", out.begin(1, 1), 4);
        due("begin(0, 1) of one who is OUT", out.begin(0, 1), 0);
        out.say(0);
        due("begin(2, 1) of the only one", out.begin(2, 1), 4);
        due("begin(1, 9) of the only baby", made("01;cbt").begin(1, 9), 7);
        due("begin(1, 9) of two babies", made("01;cbb").begin(1, 9), 0);
        due("begin(5, 0)", x.begin(5, 0), UNKNOWN);
        refused(x, "begin(5, 1)", () -> x.begin(5, 1), UNKNOWN);
        refused(x, "begin(0, 0)", () -> x.begin(0, 0), OUTSIDE);
        refused(x, "begin(0, 100)", () -> x.begin(0, 100), OUTSIDE);
        for (int wild : WILD) {
            refused(x, "begin(" + wild + ", 1)", () -> x.begin(wild, 1), UNKNOWN);
            refused(x, "begin(0, " + wild + ")", () -> x.begin(0, wild), OUTSIDE);
        }
    }

    private static void stand() {
        promise = 17;
        CountOut x = made("01;cc");
        due("stand(0, 1)", x.stand(0, 1), 5);
        due("stand(0, 2)", x.stand(0, 2), 5);
        due("stand(0, 3)", x.stand(0, 3), 2);
        due("stand(2, 50)", x.stand(2, 50), 7);
        x.first(1);
        due("stand(0, 1) with 1 first", x.stand(0, 1), 2);
        due("stand(2, 1) beside a baby", made("01;cb").stand(2, 1), 0);
        // Of nine and by 1 BEAT the one behind all is left, and that is ahead of the first one, too.
        due("stand(0, 1) of eight", made("01;cccccccc").stand(0, 1), 257);
        CountOut out = made("01;ccc");
        out.say(0);
        out.first(0);
        // 0 is OUT and first: it begins with the next one behind him; the new one is left only as the last one from there.
        due("stand(0, 1) with one who is OUT first", out.stand(0, 1), 9);
        due("count(0)", out.count(0), 3);
        refused(x, "stand(5, 1)", () -> x.stand(5, 1), OUTSIDE);
        refused(x, "stand(0, 0)", () -> x.stand(0, 0), OUTSIDE);
        refused(x, "stand(0, 100)", () -> x.stand(0, 100), OUTSIDE);
        for (int wild : WILD) {
            refused(x, "stand(" + wild + ", 1)", () -> x.stand(wild, 1), OUTSIDE);
            refused(x, "stand(0, " + wild + ")", () -> x.stand(0, wild), OUTSIDE);
        }
    }

    private static void gameOf(String text, int a, int b, int comes, int verse) {
        CountOut x = made(text);
        long before = x.digest();
        String told = "game(" + a + ", " + b + ", ";
        due(told + "0) of " + text, x.game(a, b, 0), comes);
        due(told + "1) of " + text, x.game(a, b, 1), verse);
        due("digest() behind it", x.digest(), before);
    }

    private static void game() {
        promise = 18;
        gameOf("01,02;cc", 0, 1, 2, 1);
        gameOf("01,02;cc", 1, 0, 2, 0);
        gameOf("01;cc", 0, 1, 0, 0);
        gameOf("01,03,05;cc", 0, 1, 0, 0);
        gameOf("02,02;cc", 0, 1, 2, 0);
        gameOf("01;bbc", 0, 1, 1, 0);
        gameOf("01;bb", 0, 1, 1, NONE);
        gameOf("01,02;ccc", 0, 2, 0, 0);
        gameOf("01,02;ccc", 0, 1, 2, 1);
        // 2 is OUT, then of 0 and 1 it falls on 0: the other one has won.
        gameOf("03;ccc", 0, 1, 0, 0);
        // 1 is OUT, then of 2 and 0 it falls on 0, and it is the other one who says that.
        gameOf("02;ccc", 0, 2, 0, 0);
        gameOf("02;ccc", 2, 0, 2, 0);
        CountOut x = made("01,02;cccc");
        due("say(0)", x.say(0), 0);
        due("game(1, 1, 9)", x.game(1, 1, 9), UNKNOWN);
        due("game(0, 1, 2)", x.game(0, 1, 2), OUTSIDE);
        refused(x, "game(1, 1, 0)", () -> x.game(1, 1, 0), UNKNOWN);
        refused(x, "game(4, 1, 0)", () -> x.game(4, 1, 0), UNKNOWN);
        refused(x, "game(1, 4, 0)", () -> x.game(1, 4, 0), UNKNOWN);
        refused(x, "game(1, 2, 2)", () -> x.game(1, 2, 2), OUTSIDE);
        refused(x, "game(0, 1, 0)", () -> x.game(0, 1, 0), STATE);
        refused(x, "game(1, 0, 1)", () -> x.game(1, 0, 1), STATE);
        for (int wild : WILD) {
            refused(x, "game(" + wild + ", 1, 0)", () -> x.game(wild, 1, 0), UNKNOWN);
            refused(x, "game(1, " + wild + ", 0)", () -> x.game(1, wild, 0), UNKNOWN);
            refused(x, "game(1, 2, " + wild + ")", () -> x.game(1, 2, wild), OUTSIDE);
        }
    }

    private static void likelyOf(CountOut x, int child, int above, int below) {
        due("likely(" + child + ", 0)", x.likely(child, 0), above);
        due("likely(" + child + ", 1)", x.likely(child, 1), below);
    }

    private static void likely() {
        promise = 19;
        CountOut two = made("50;cc");
        likelyOf(two, 0, 1, 3);
        likelyOf(two, 1, 2, 3);
        two.first(1);
        likelyOf(two, 0, 2, 3);
        CountOut three = made("50;ccc");
        for (int child = 0; child < 3; child++) {
            likelyOf(three, child, 1, 3);
        }
        // 1 and 2 BEATS are the TWIN's, 3 is the other one's.
        CountOut twin = made("50;tc");
        likelyOf(twin, 0, 1, 3);
        likelyOf(twin, 1, 2, 3);
        CountOut baby = made("50;cbs");
        likelyOf(baby, 0, 0, 1);
        likelyOf(baby, 1, 1, 1);
        CountOut babies = made("50;bbc");
        likelyOf(babies, 0, 0, 1);
        likelyOf(babies, 2, 0, 1);
        CountOut one = made("01;cc");
        one.say(0);
        likelyOf(one, 1, 1, 1);
        sumsToOne("01;cccccccc");
        sumsToOne("01;ctskctsk");
        due("likely(2, 9)", one.likely(2, 9), UNKNOWN);
        due("likely(0, 9)", one.likely(0, 9), OUTSIDE);
        refused(one, "likely(0, 0)", () -> one.likely(0, 0), STATE);
        refused(one, "likely(2, 0)", () -> one.likely(2, 0), UNKNOWN);
        refused(one, "likely(1, 2)", () -> one.likely(1, 2), OUTSIDE);
        for (int wild : WILD) {
            refused(one, "likely(" + wild + ", 0)", () -> one.likely(wild, 0), UNKNOWN);
            refused(one, "likely(1, " + wild + ")", () -> one.likely(1, wild), OUTSIDE);
        }
    }

    private static void sumsToOne(String text) {
        CountOut x = made(text);
        int parts = 0;
        for (int child = 0; child < x.count(0); child++) {
            parts += x.likely(child, 0) * (2187 / x.likely(child, 1));
        }
        due("all parts of " + text + " in 2187ths", parts, 2187);
    }

    private static void see() {
        promise = 20;
        CountOut x = made("01;cccc");
        x.say(0);
        due("see(0, 1) from one who is OUT", x.see(0, 1), 1);
        for (int seen = 2; seen <= 6; seen++) {
            due("see(1, 1)", x.see(1, 1), seen);
        }
        refused(x, "see(1, 1) behind six", () -> x.see(1, 1), FULL);
        refused(x, "see(4, 1) behind six", () -> x.see(4, 1), UNKNOWN);
        refused(x, "see(1, 4) behind six", () -> x.see(1, 4), UNKNOWN);
        for (int wild : WILD) {
            refused(x, "see(" + wild + ", 1)", () -> x.see(wild, 1), UNKNOWN);
            refused(x, "see(1, " + wild + ")", () -> x.see(1, wild), UNKNOWN);
        }
        due("count(8)", x.count(8), 6);
    }

    private static void forget() {
        promise = 21;
        due("forget() of a new one", new CountOut().forget(), 0);
        CountOut x = made("01;ccc");
        x.see(0, 1);
        x.see(0, 2);
        due("lengths()", x.lengths(), 0);
        due("forget()", x.forget(), 2);
        due("forget() again", x.forget(), 0);
        due("lengths()", x.lengths(), (1 << 24) - 1);
        due("see(0, 1)", x.see(0, 1), 1);
    }

    private static int every(int start, int step) {
        int bits = 0;
        for (int beats = start; beats <= 24; beats += step) {
            bits += 1 << (beats - 1);
        }
        return bits;
    }

    private static void lengths() {
        promise = 22;
        CountOut x = made("50;cccc");
        due("lengths() of nothing SEEN", x.lengths(), (1 << 24) - 1);
        x.see(0, 2);
        due("lengths()", x.lengths(), every(3, 4));
        x.see(3, 1);
        due("lengths() of the same again", x.lengths(), every(3, 4));
        x.turn();
        due("lengths() turned", x.lengths(), every(3, 4));
        x.turn();
        // Now 0 is OUT: what is SEEN is asked of the three who are left, from 0 as from 1, and from 3.
        x.first(0);
        x.beats(0, 1);
        due("say(0)", x.say(0), 0);
        due("lengths() of three", x.lengths(), every(2, 3));
        x.say(0);
        x.back(0);
        due("lengths() of one who is OUT", x.lengths(), 0);
        CountOut babies = made("01;bb");
        due("lengths() of babies", babies.lengths(), (1 << 24) - 1);
        babies.see(0, 0);
        due("lengths() of babies, SEEN", babies.lengths(), 0);
    }

    private static void from() {
        promise = 23;
        CountOut x = made("50;kcc");
        due("from() of nothing SEEN", x.from(), 0);
        // 0 slips and turns it about: 1, 4, .. and 3, 6, .. BEATS put 2 OUT from 0; from 1 they are told apart.
        x.see(0, 2);
        due("lengths()", x.lengths(), every(1, 3) + every(3, 3));
        due("from()", x.from(), 1);
        x.see(1, 0);
        due("from() with no length left", x.from(), NONE);
        due("from() of babies", made("01;bb").from(), NONE);
        CountOut one = made("01;cc");
        one.say(0);
        due("from() with one IN", one.from(), NONE);
        CountOut out = made("01;cccc");
        out.say(0);
        due("from(): one who is OUT may be first", out.from(), 0);
    }

    private static void rounds() {
        promise = 24;
        CountOut x = made("01,02;ccc");
        long before = x.digest();
        // 12345 by 65536 is 0: VERSE 0.
        due("rounds(1, 0, 0)", x.rounds(1, 0, 0), 0);
        due("rounds(1, 0, 1)", x.rounds(1, 0, 1), 1);
        due("rounds(1, 0, 2)", x.rounds(1, 0, 2), 12345);
        // The next SEED is 1406932606; by 65536 that is 21468, its rest by 2 is 0: 1 is OUT, then all come back.
        due("rounds(2, 0, 2)", x.rounds(2, 0, 2), 1406932606);
        due("rounds(2, 0, 1)", x.rounds(2, 0, 1), 2);
        due("rounds(3, 0, 0)", x.rounds(3, 0, 0), 1);
        due("rounds(3, 0, 1)", x.rounds(3, 0, 1), 2);
        due("rounds(3, 0, 2)", x.rounds(3, 0, 2), 1406932606);
        due("digest() behind it", x.digest(), before);
        CountOut babies = made("01;bb");
        babies.first(1);
        due("rounds(60, 7, 0) of babies", babies.rounds(60, 7, 0), 60);
        due("rounds(60, 7, 1) of babies", babies.rounds(60, 7, 1), 1);
        due("rounds(60, 7, 2) of babies", babies.rounds(60, 7, 2), 7);
        // Each time 0 slips, 1 is OUT, all come back and nobody has SLIPPED: else 0 would be OUT the second time.
        due("rounds(3, 0, 1) of sly ones", made("01;sc").rounds(3, 0, 1), 0);
        refused(x, "rounds(0, 0, 0)", () -> x.rounds(0, 0, 0), OUTSIDE);
        refused(x, "rounds(61, 0, 0)", () -> x.rounds(61, 0, 0), OUTSIDE);
        refused(x, "rounds(1, -1, 0)", () -> x.rounds(1, -1, 0), OUTSIDE);
        refused(x, "rounds(1, 0, 3)", () -> x.rounds(1, 0, 3), OUTSIDE);
        for (int wild : WILD) {
            refused(x, "rounds(" + wild + ", 0, 0)", () -> x.rounds(wild, 0, 0), OUTSIDE);
            refused(x, "rounds(1, 0, " + wild + ")", () -> x.rounds(1, 0, wild), OUTSIDE);
        }
        due("rounds(1, 2147483647, 2)", x.rounds(1, 2147483647, 2), 1043980748);
        refused(x, "rounds(1, -2147483648, 2)", () -> x.rounds(1, -2147483648, 2), OUTSIDE);
    }

    private static void image() {
        promise = 25;
        CountOut x = made("01;ccc");
        due("image()", x.image(), 0);
        x.say(0);
        due("image() later", x.image(), 1);
        x.say(0);
        due("restore() of the latest", x.restore(), 1);
        due("count(1)", x.count(1), 2);
    }

    private static void restore() {
        promise = 26;
        CountOut x = made("01,07;skcc");
        refused(x, "restore() of none", x::restore, STATE);
        x.say(0);
        x.see(1, 2);
        x.first(3);
        long before = x.digest();
        int lengths = x.lengths();
        x.image();
        x.say(1);
        x.turn();
        x.beats(0, 9);
        x.beats(1, 9);
        x.be(0, 2);
        x.be(3, 1);
        x.first(2);
        x.forget();
        x.see(3, 3);
        x.see(3, 3);
        for (int times = 0; times < 2; times++) {
            due("restore()", x.restore(), 1);
            due("digest() behind it", x.digest(), before);
            due("lengths() behind it", x.lengths(), lengths);
            x.forget();
            x.see(0, 0);
            x.say(0);
        }
        write(x, "09");
        due("restore() keeps THE PAGE", x.restore(), 1);
        due("count(9)", x.count(9), 2);
        x.blank();
        write(x, "01;cc");
        x.ring();
        refused(x, "restore() of another ring", x::restore, STATE);
        due("count(10)", x.count(10), 2);
        due("image()", x.image(), 0);
        due("restore()", x.restore(), 0);
    }

    private static void counts(CountOut x, int... want) {
        for (int what = 0; what < want.length; what++) {
            due("count(" + what + ")", x.count(what), want[what]);
        }
    }

    private static void count() {
        promise = 27;
        CountOut x = made("01,02;ktbcs");
        counts(x, 5, 5, 2, 0, 0, 1, 0, 5, 0, 0, 1);
        // 0 slips and turns it about, 4 slips, and 3 is OUT.
        due("say(0)", x.say(0), 3);
        x.see(0, 0);
        write(x, "ab");
        counts(x, 5, 4, 2, 2, 2, 0, 1, 4, 1, 2, 1);
        // From 2, a BABY, it goes to 1: both BEATS are his.
        due("say(1)", x.say(1), 1);
        counts(x, 5, 3, 2, 2, 0, 0, 2, 2, 1, 2, 1);
        due("say(0)", x.say(0), 0);
        due("count(3) of one who is OUT, too", x.count(3), 2);
        refused(x, "count(11)", () -> x.count(11), OUTSIDE);
        for (int wild : WILD) {
            refused(x, "count(" + wild + ")", () -> x.count(wild), OUTSIDE);
        }
    }

    private static long mixed(int... numbers) {
        long h = 1289;
        for (int number : numbers) {
            h = 31 * h + number;
        }
        return h;
    }

    private static void digest() {
        promise = 28;
        CountOut x = new CountOut();
        due("digest() of a new one", x.digest(), mixed(0, 0, 0, 0, 0, 0, 0, 0, 0, 0, 0));
        write(x, "c ");
        due("digest() of a page", x.digest(), mixed(99, 32, 0, 0, 0, 0, 0, 0, 0, 0, 0, 2, 0));
        CountOut two = made("02;cc");
        write(two, "z");
        due("digest() of two", two.digest(), mixed(
                0, 1, 0, 1, 2, 1, 2,
                0, 1, 0, 1, 1, 0, 1,
                2, 1, 0,
                1, 0, (1 << 24) - 1, 0,
                2, 0,
                1, 3, 2, 3,
                122,
                2, 2, 1, 0, 0, 1, 0, 2, 0, 1, 1));
    }

    private static void refusalsWithoutRing() {
        CountOut x = new CountOut();
        write(x, "05;c");
        promise = 5;
        refused(x, "ring()", x::ring, STATE);
        promise = 6;
        refused(x, "child(0, 9)", () -> x.child(0, 9), UNKNOWN);
        promise = 7;
        refused(x, "as(0, 9)", () -> x.as(0, 9), UNKNOWN);
        promise = 8;
        refused(x, "verse(0, 9)", () -> x.verse(0, 9), UNKNOWN);
        promise = 9;
        refused(x, "say(0)", () -> x.say(0), UNKNOWN);
        promise = 10;
        refused(x, "back(0)", () -> x.back(0), UNKNOWN);
        promise = 11;
        refused(x, "first(0)", () -> x.first(0), UNKNOWN);
        promise = 12;
        refused(x, "turn()", x::turn, STATE);
        promise = 13;
        refused(x, "beats(0, 0)", () -> x.beats(0, 0), UNKNOWN);
        promise = 14;
        refused(x, "be(0, 9)", () -> x.be(0, 9), UNKNOWN);
        promise = 15;
        refused(x, "last(0)", () -> x.last(0), OUTSIDE);
        refused(x, "last(1)", () -> x.last(1), STATE);
        refused(x, "last(99)", () -> x.last(99), STATE);
        promise = 16;
        refused(x, "begin(0, 0)", () -> x.begin(0, 0), UNKNOWN);
        promise = 17;
        refused(x, "stand(5, 1)", () -> x.stand(5, 1), OUTSIDE);
        refused(x, "stand(0, 0)", () -> x.stand(0, 0), OUTSIDE);
        refused(x, "stand(4, 99)", () -> x.stand(4, 99), STATE);
        promise = 18;
        refused(x, "game(0, 1, 9)", () -> x.game(0, 1, 9), UNKNOWN);
        promise = 19;
        refused(x, "likely(0, 9)", () -> x.likely(0, 9), UNKNOWN);
        promise = 20;
        refused(x, "see(0, 0)", () -> x.see(0, 0), UNKNOWN);
        promise = 22;
        refused(x, "lengths()", x::lengths, STATE);
        promise = 23;
        refused(x, "from()", x::from, STATE);
        promise = 24;
        refused(x, "rounds(0, 0, 0)", () -> x.rounds(0, 0, 0), OUTSIDE);
        refused(x, "rounds(1, -1, 0)", () -> x.rounds(1, -1, 0), OUTSIDE);
        refused(x, "rounds(1, 0, 3)", () -> x.rounds(1, 0, 3), OUTSIDE);
        refused(x, "rounds(60, 0, 2)", () -> x.rounds(60, 0, 2), STATE);
        promise = 25;
        refused(x, "image()", x::image, STATE);
        promise = 26;
        refused(x, "restore()", x::restore, STATE);
        promise = 27;
        refused(x, "count(11)", () -> x.count(11), OUTSIDE);
    }
}
