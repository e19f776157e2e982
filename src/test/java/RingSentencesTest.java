/** The sentences that bound a RING's text and THE PAGE (promises 1 to 5). */
public final class RingSentencesTest {
    private static final String DIGITS = "0123456789", FROM_ONE = "123456789", KINDS = "ctbsk";

    public static void main(String[] args) {
        noRing();
        letterCodes();
        letterFull();
        letterOrder();
        blank();
        verses();
        digits();
        children();
        faultPlace();
        faultNone();
        ringIsNone();
        ringTaken();
        pageIsEmptyThen();
        anotherRingIsGone();
        firstSettings();
        Check.end();
    }

    private static void noRing() {
        Check.sentence("CountOut(): No RING.");
        Check.counts("new", new CountOut(), 0, 0, 0, 0, 0, 0, 0, 0, 0, 0, 0);
        Check.due("child(0, 0)", new CountOut().child(0, 0), Check.UNKNOWN);
        Check.due("verse(0, 0)", new CountOut().verse(0, 0), Check.UNKNOWN);
        Check.due("fault()", new CountOut().fault(), 0);
    }

    private static void letterCodes() {
        Check.sentence("letter: OUTSIDE: code (32 to 126)");
        CountOut x = new CountOut();
        for (int code = -3; code <= 130; code++) {
            Check.due("letter(" + code + ")", x.letter(code), code < 32 || code > 126 ? Check.OUTSIDE : 1);
            x.blank();
        }
        for (int code : new int[] {31, 127, 32 + 256, 99 - 256, 99 + (1 << 16)}) {
            Check.refused("", Check.NOTHING, "letter(" + code + ")", y -> y.letter(code), Check.OUTSIDE);
        }
        for (int code : Check.WILD) {
            Check.refused("", y -> Check.write(y, "01;c"), "letter(" + code + ")", y -> y.letter(code), Check.OUTSIDE);
        }
    }

    private static void letterFull() {
        Check.sentence("letter: how many THE PAGE has; FULL: above 20");
        CountOut x = new CountOut();
        for (int size = 1; size <= 20; size++) {
            Check.due("letter(99)", x.letter(99), size);
        }
        Check.due("letter(99) behind 20", x.letter(99), Check.FULL);
        Check.due("count(9)", x.count(9), 20);
        Check.due("blank()", x.blank(), 20);
        Check.due("letter(99) behind none", x.letter(99), 1);
        String nineteen = "01;ctbskctxxxxxxxxx";
        Check.due("letter(99) behind 19", written(nineteen).letter(99), 20);
        Check.refused("", y -> Check.write(y, nineteen + "x"), "letter(99) behind 20", y -> y.letter(99), Check.FULL);
        Check.refused("02;ck", y -> Check.write(y, nineteen + "x"), "letter(32) behind 20", y -> y.letter(32), Check.FULL);
    }

    private static CountOut written(String text) {
        CountOut x = new CountOut();
        Check.write(x, text);
        return x;
    }

    private static void letterOrder() {
        Check.sentence("letter: OUTSIDE is told ahead of FULL");
        for (int code : new int[] {31, 127, -1}) {
            Check.refused("", y -> Check.write(y, "01;ctbskctxxxxxxxxxx"), "letter(" + code + ") behind 20",
                    y -> y.letter(code), Check.OUTSIDE);
        }
    }

    private static void blank() {
        Check.sentence("blank: THE PAGE is empty: how many letters it had");
        CountOut x = new CountOut();
        Check.due("blank() of none", x.blank(), 0);
        x.letter('0');
        Check.due("blank() of one", x.blank(), 1);
        Check.due("blank() again", x.blank(), 0);
        Check.due("fault()", x.fault(), 0);
        CountOut ring = Check.made("03;cc", y -> Check.write(y, "07;kk"));
        Check.due("blank() beside a ring", ring.blank(), 5);
        Check.counts("blank() beside a ring", ring, 2, 2, 1, 0, 0, 1, 0, 2, 0, 0, 1);
        Check.due("ring() of an empty page", ring.ring(), Check.STATE);
    }

    /** Behind that text just these signs, of all that a page can hold, are such as a RING has there. */
    private static void goesOnWith(String text, String signs) {
        CountOut x = new CountOut();
        for (int code = 32; code <= 126; code++) {
            x.blank();
            x = code % 8 == 0 ? new CountOut() : x;
            Check.write(x, text);
            x.letter(code);
            boolean taken = signs.indexOf(code) >= 0;
            Check.due("fault() of " + text + (char) code, x.fault(), taken ? text.length() + 1 : text.length());
        }
    }

    private static void verses() {
        Check.sentence("one to three VERSES with \",\" between; \";\"");
        goesOnWith("01", ",;");
        goesOnWith("99,01", ",;");
        goesOnWith("99,10,01", ";");
        Check.due("ring() of one", Check.made("01;cc").count(2), 1);
        Check.due("ring() of two", Check.made("01,02;cc").count(2), 2);
        Check.due("ring() of three", Check.made("01,02,03;cc").count(2), 3);
        isNone(";cc");
        isNone("cc");
        isNone("01,02,03,04;cc");
        isNone("01,;cc");
        isNone(",01;cc");
        isNone("01,,02;cc");
        isNone("0102;cc");
        isNone("01cc");
        isNone("01;;cc");
        isNone("01;cc;");
        isNone("01;cc,01");
    }

    private static void digits() {
        Check.sentence("each two digits (tens, ones; 1 at least, so not \"00\")");
        goesOnWith("", DIGITS);
        goesOnWith("0", FROM_ONE);
        goesOnWith("1", DIGITS);
        goesOnWith("9", DIGITS);
        goesOnWith("01,", DIGITS);
        goesOnWith("01,0", FROM_ONE);
        goesOnWith("01,9", DIGITS);
        goesOnWith("01,02,", DIGITS);
        goesOnWith("01,02,0", FROM_ONE);
        goesOnWith("01,02,1", DIGITS);
        for (int beats = 1; beats <= 99; beats++) {
            String two = "" + beats / 10 + beats % 10;
            Check.due("verse(0, 0) of " + two, Check.made(two + ";cc").verse(0, 0), beats);
            Check.due("verse(2, 0) of " + two, Check.made("01,01," + two + ";cc").verse(2, 0), beats);
        }
        isNone("00;cc");
        isNone("01,00;cc");
        isNone("01,01,00;cc");
        isNone("1;cc");
        isNone("001;cc");
    }

    private static void children() {
        Check.sentence("two to eight letters, one for each CHILD, the KIND");
        goesOnWith("01;", KINDS);
        goesOnWith("01;c", KINDS);
        goesOnWith("01;ctbskct", KINDS);
        goesOnWith("01;ctbskctb", "");
        goesOnWith("01,02,03;", KINDS);
        goesOnWith("01,02,03;kkkkkkk", KINDS);
        goesOnWith("01,02,03;kkkkkkkk", "");
        isNone("01;");
        isNone("01;c");
        Check.children("two", Check.made("01;kb"), 0, 4, 2, Check.UNKNOWN);
        Check.children("eight", Check.made("01,02,03;kstbcskt"), 0, 4, 3, 1, 2, 0, 3, 4, 1, Check.UNKNOWN);
        isNone("01;ccccccccc");
        isNone("01;cC");
    }

    private static void faultPlace() {
        Check.sentence("fault: the place of the first letter that no RING has there, behind those ahead of it");
        Check.due("fault() of x01;cc", written("x01;cc").fault(), 0);
        Check.due("fault() of 00;zz", written("00;zz").fault(), 1);
        Check.due("fault() of 01;cz,z", written("01;cz,z").fault(), 4);
        Check.due("fault() of 20 letters", written("01,02,03;ccccccccccc").fault(), 17);
        Check.due("fault() of 20 digits", written("01234567890123456789").fault(), 2);
    }

    private static void faultNone() {
        Check.sentence("fault: how many letters it has, if there is none");
        String longest = "99,10,01;ctbskctb";
        for (int size = 0; size <= longest.length(); size++) {
            Check.due("fault() of " + longest.substring(0, size), written(longest.substring(0, size)).fault(), size);
        }
        CountOut x = Check.made("01;cc", y -> Check.write(y, "07;k"));
        Check.due("fault() beside a ring", x.fault(), 4);
        Check.counts("fault() beside a ring", x, 2, 2, 1, 0, 0, 1, 0, 2, 0, 4, 1);
    }

    /** No RING, and so refused: without a RING ahead of it, and with one, that stays. */
    private static void isNone(String text) {
        Check.refused("", x -> Check.write(x, text), "ring() of " + text, CountOut::ring, Check.STATE);
        Check.refused("02,07;skt", x -> {
            x.image();
            x.say(0);
            x.see(0, 1);
            Check.write(x, text);
        }, "ring() of " + text, CountOut::ring, Check.STATE);
    }

    private static void ringIsNone() {
        Check.sentence("ring: STATE: it is none");
        String longest = "99,10,01;ctbskctb";
        for (int size = 0; size <= longest.length(); size++) {
            if (size < 11) {
                isNone(longest.substring(0, size));
            } else {
                Check.made(longest.substring(0, size));
            }
        }
        isNone(longest + "c");
        isNone(longest + " ");
        isNone(" " + longest);
        isNone("01;cc ");
        isNone("01;ccxxxxxxxxxxxxxxx");
    }

    private static void ringTaken() {
        Check.sentence("ring: how many CHILDREN");
        for (int children = 2; children <= 8; children++) {
            Check.due("ring()", written("01;tttttttt".substring(0, 3 + children)).ring(), children);
        }
    }

    private static void pageIsEmptyThen() {
        Check.sentence("ring: THE PAGE is empty then");
        CountOut x = Check.made("01;cc");
        Check.due("count(9)", x.count(9), 0);
        Check.due("ring() again", x.ring(), Check.STATE);
        Check.due("count(10)", x.count(10), 1);
        Check.due("letter(99)", x.letter(99), 1);
    }

    private static void anotherRingIsGone() {
        Check.sentence("ring: another one is gone, with all that was");
        CountOut x = Check.made("01,02,03;kskt");
        x.image();
        x.see(0, 1);
        x.say(0);
        x.turn();
        x.first(2);
        x.beats(0, 40);
        x.be(0, 1);
        Check.write(x, "05;sb");
        Check.due("ring()", x.ring(), 2);
        CountOut alone = Check.made("05;sb");
        Check.counts("another ring", x, 2, 2, 1, 0, 0, 1, 0, 1, 0, 0, 2);
        Check.children("another ring", x, 0, 3, 2, Check.UNKNOWN);
        Check.children("another ring", x, 1, 1, 1, Check.UNKNOWN);
        Check.children("another ring", x, 2, 0, 0, Check.UNKNOWN);
        Check.due("verse(0, 0)", x.verse(0, 0), 5);
        Check.due("verse(1, 0)", x.verse(1, 0), Check.UNKNOWN);
        Check.due("lengths()", x.lengths(), (1 << 24) - 1);
        Check.due("restore()", x.restore(), Check.STATE);
        Check.due("say(0)", x.say(0), alone.say(0));
        smallerRing();
        Check.write(x, "05;sb");
        Check.due("the same ring() again", x.ring(), 2);
        Check.counts("the same ring again", x, 2, 2, 1, 0, 0, 1, 0, 1, 0, 0, 3);
    }

    /** Of eight, all of whom SLIPPED, or take two BEATS, nothing is left in a RING of two. */
    private static void smallerRing() {
        CountOut x = Check.made("01,02,03;ssssssss");
        x.say(0);
        Check.due("count(3)", x.count(3), 8);
        Check.write(x, "05;cc");
        Check.due("ring() of two", x.ring(), 2);
        Check.counts("a smaller ring", x, 2, 2, 1, 0, 0, 1, 0, 2, 0, 0, 2);
        x = Check.made("01;tttttttt");
        x.first(7);
        x.say(0);
        Check.write(x, "05;cc");
        Check.due("ring() of two", x.ring(), 2);
        Check.counts("a smaller ring", x, 2, 2, 1, 0, 0, 1, 0, 2, 0, 0, 2);
    }

    private static void firstSettings() {
        Check.sentence("then all are IN, nobody SLIPPED, CHILD 0 is first, the count goes ONWARD");
        CountOut x = Check.made("01;ctbskctb");
        Check.children("new", x, 1, 1, 1, 1, 1, 1, 1, 1, 1);
        Check.children("new", x, 2, 0, 0, 0, 0, 0, 0, 0, 0);
        Check.children("new", x, 5, 1, 0, 0, 0, 0, 0, 0, 0);
        Check.counts("new", x, 8, 8, 1, 0, 0, 1, 0, 8, 0, 0, 1);
    }
}
