import java.util.function.Consumer;

/** The sentences of the IMAGE and of what is told of all (promises 25 to 28), with each refusal. */
public final class TellingSentencesTest {
    private static final Consumer<CountOut> WRITTEN = x -> Check.write(x, "01;cc");

    public static void main(String[] args) {
        imageTells();
        imageRefused();
        imageIsTheLatest();
        imageKeeps();
        imageKeepsNoMore();
        restoreTells();
        restoreNoneKept();
        restoreAnotherRing();
        restoreBehindARefusedRing();
        countTells();
        countWithoutRing();
        countOutside();
        countPageAndRings();
        digestOfNothing();
        digestAsTold();
        digestChangesNothing();
        as512CallsOfCounts();
        as512CallsOfRings();
        Check.end();
    }

    private static void imageTells() {
        Check.sentence("image: an IMAGE is kept: how many COUNTS there were");
        CountOut x = Check.made("01;cccccccc");
        for (int counts = 0; counts <= 7; counts++) {
            Check.due("image()", x.image(), counts);
            x.say(0);
        }
        Check.due("image() with one IN", x.image(), 7);
        Check.refused("01,02;sktb", y -> { y.say(0); y.image(); y.see(1, 1); y.image(); }, "image() of the same",
                CountOut::image, 1);
    }

    private static void imageRefused() {
        Check.sentence("image: STATE: no RING");
        Check.refusedWithoutRing("image()", CountOut::image, Check.STATE);
    }

    private static void imageIsTheLatest() {
        Check.sentence("image: (one; the latest)");
        CountOut x = Check.made("01;cccc");
        x.image();
        x.say(0);
        x.image();
        x.say(0);
        Check.due("restore()", x.restore(), 1);
        Check.children("restore()", x, 1, 0, 1, 1, 1);
        Check.due("restore() again", x.restore(), 1);
    }

    /** Something is changed behind the IMAGE, and stands again as it was when it is restored. */
    private static void keeps(String what, Consumer<CountOut> change) {
        // 0 is OUT and both he and 1 have SLIPPED; it goes back; by 4, 8 and so on what is SEEN is so.
        Consumer<CountOut> ready = x -> {
            x.say(0);
            x.see(1, 2);
            x.see(0, 1);
            x.image();
        };
        Check.refused("01,07;skccc", ready, "restore() of " + what, x -> {
            String before = "" + x.digest() + x.lengths();
            change.accept(x);
            Check.due(what + " is told otherwise", before.equals("" + x.digest() + x.lengths()) ? 0 : 1, 1);
            return x.restore();
        }, 1);
    }

    private static void imageKeeps() {
        Check.sentence("an IMAGE keeps KINDS, BEATS, who is IN, who SLIPPED, who is first, how it goes, COUNTS, SEEN");
        keeps("a KIND", x -> x.be(2, 2));
        keeps("KINDS of all", x -> {
            for (int child = 0; child < 5; child++) {
                x.be(child, 4 - child);
            }
        });
        keeps("BEATS of VERSE 0", x -> x.beats(0, 2));
        keeps("BEATS of VERSE 1", x -> x.beats(1, 99));
        keeps("who is IN, one OUT", x -> x.say(1));
        keeps("who is IN, one back", x -> {
            for (int child = 0; child < 5; child++) {
                x.back(child);
            }
        });
        keeps("who SLIPPED", x -> x.be(0, 3));
        keeps("who is first", x -> x.first(x.count(4) == 2 ? 3 : 2));
        keeps("how it goes", CountOut::turn);
        keeps("how many COUNTS", x -> x.back(x.say(0)));
        keeps("SEEN, none", CountOut::forget);
        keeps("SEEN, more", x -> x.see(4, 4));
        keeps("SEEN, others", x -> {
            x.forget();
            x.see(3, 3);
            x.see(4, 4);
        });
    }

    private static void imageKeepsNoMore() {
        Check.sentence("an IMAGE keeps no letters of THE PAGE and not how often a RING was read");
        CountOut x = Check.made("01;cc");
        Check.write(x, "0");
        x.image();
        Check.write(x, "5;k");
        Check.due("restore()", x.restore(), 0);
        Check.due("count(9)", x.count(9), 4);
        Check.due("fault()", x.fault(), 4);
        Check.due("letter(107)", x.letter('k'), 5);
        Check.due("ring()", x.ring(), 2);
        x.image();
        Check.due("restore()", x.restore(), 0);
        Check.due("count(10)", x.count(10), 2);
        Check.due("verse(0, 0)", x.verse(0, 0), 5);
    }

    private static void restoreTells() {
        Check.sentence("restore: it goes on from the IMAGE: how many COUNTS there were");
        CountOut x = Check.made("01;cccc");
        x.say(0);
        x.image();
        for (int times = 0; times < 3; times++) {
            Check.due("say(0)", x.say(0), 1);
            Check.due("say(0)", x.say(0), 2);
            Check.due("count(6)", x.count(6), 3);
            Check.due("restore()", x.restore(), 1);
            Check.due("count(6)", x.count(6), 1);
        }
        CountOut fresh = Check.made("01;cccc", CountOut::image);
        Check.due("restore() at once", fresh.restore(), 0);
    }

    private static void restoreNoneKept() {
        Check.sentence("restore: STATE: none was kept");
        Check.refused("", Check.NOTHING, "restore() without a ring", CountOut::restore, Check.STATE);
        Check.refused("", x -> { WRITTEN.accept(x); x.image(); }, "restore() behind a refused image",
                CountOut::restore, Check.STATE);
        Check.refused("01,02;ctbsk", x -> { x.say(1); x.see(0, 1); }, "restore()", CountOut::restore, Check.STATE);
    }

    private static void restoreAnotherRing() {
        Check.sentence("restore: STATE: or there is another RING since");
        Consumer<CountOut> another = x -> {
            x.image();
            x.say(0);
            WRITTEN.accept(x);
            x.ring();
            x.say(0);
        };
        Check.refused("02;kkk", another, "restore() of another ring", CountOut::restore, Check.STATE);
        Check.refused("01;cc", another, "restore() of the same text, read again", CountOut::restore, Check.STATE);
        CountOut x = Check.made("02;kkk", another);
        Check.due("image() of another ring", x.image(), 1);
        x.back(0);
        Check.due("restore() of that", x.restore(), 1);
        Check.due("count(1)", x.count(1), 1);
    }

    private static void restoreBehindARefusedRing() {
        Check.sentence("restore: a text that is none is no other RING");
        CountOut x = Check.made("01;ccc");
        x.say(0);
        x.image();
        x.say(0);
        Check.write(x, "00;cc");
        Check.due("ring()", x.ring(), Check.STATE);
        Check.due("restore()", x.restore(), 1);
        Check.due("count(1)", x.count(1), 2);
    }

    private static void countTells() {
        Check.sentence("count: 0 CHILDREN, 1 IN, 2 VERSES, 3 SLIPPED, 4 first, 5 way, 6 COUNTS, 7 BEATS together, 8 SEEN");
        CountOut x = Check.made("01,02,03;ktbcsttt");
        Check.counts("new", x, 8, 8, 3, 0, 0, 1, 0, 11, 0, 0, 1);
        // 0 slips and turns it to 7, whose first BEAT it is not any more: he is OUT.
        Check.due("say(0)", x.say(0), 7);
        x.see(0, 0);
        Check.counts("say(0)", x, 8, 7, 3, 1, 6, 0, 1, 9, 1, 0, 1);
        x.first(3);
        // 3 is 1, 2 a BABY, and 1 a TWIN: he is OUT.
        Check.due("say(1)", x.say(1), 1);
        Check.counts("say(1)", x, 8, 6, 3, 1, 0, 0, 2, 7, 1, 0, 1);
        Check.due("say(0), 0 is first and SLIPPED", x.say(0), 0);
        Check.counts("say(0)", x, 8, 5, 3, 1, 6, 0, 3, 6, 1, 0, 1);
        x.turn();
        x.back(0);
        Check.counts("back(0)", x, 8, 6, 3, 1, 6, 1, 3, 7, 1, 0, 1);
        Check.counts("babies", Check.made("01;bbbbbbbb"), 8, 8, 1, 0, 0, 1, 0, 0, 0, 0, 1);
        Check.counts("twins", Check.made("01;tttttttt"), 8, 8, 1, 0, 0, 1, 0, 16, 0, 0, 1);
    }

    private static void countWithoutRing() {
        Check.sentence("count: (1 ONWARD, 0; 0 for both: no RING)");
        CountOut x = new CountOut();
        Check.counts("no ring", x, 0, 0, 0, 0, 0, 0, 0, 0, 0, 0, 0);
        WRITTEN.accept(x);
        x.turn();
        x.first(1);
        Check.counts("no ring yet", x, 0, 0, 0, 0, 0, 0, 0, 0, 0, 5, 0);
        x.ring();
        Check.counts("a ring", x, 2, 2, 1, 0, 0, 1, 0, 2, 0, 0, 1);
    }

    private static void countOutside() {
        Check.sentence("count: OUTSIDE");
        int[] above = {11, 12};
        Check.refusedEach("01,02;ctbsk", x -> { x.image(); x.say(1); x.see(0, 1); }, "count(..)", above,
                n -> x -> x.count(n), Check.OUTSIDE);
        Check.refusedEach("", WRITTEN, "count(..)", above, n -> x -> x.count(n), Check.OUTSIDE);
    }

    private static void countPageAndRings() {
        Check.sentence("count: 9 letters of THE PAGE, 10 how often a RING was read");
        CountOut x = new CountOut();
        for (int read = 1; read <= 20; read++) {
            WRITTEN.accept(x);
            Check.due("count(9)", x.count(9), 5);
            Check.due("count(10)", x.count(10), read - 1);
            x.ring();
            Check.due("count(9)", x.count(9), 0);
            Check.due("count(10)", x.count(10), read);
            x.ring();
            Check.due("count(10) behind a refused one", x.count(10), read);
        }
        for (int size = 1; size <= 21; size++) {
            x.letter(' ');
            Check.due("count(9)", x.count(9), Math.min(size, 20));
        }
    }

    private static long mixed(long h, long... numbers) {
        long mixed = h;
        for (long number : numbers) {
            mixed = 31 * mixed + number;
        }
        return mixed;
    }

    private static void digestOfNothing() {
        Check.sentence("digest: h is 1289, then for each of these numbers, in order, 31 times h, and it (as longs, wrapping)");
        Check.due("digest()", new CountOut().digest(), mixed(1289, 0, 0, 0, 0, 0, 0, 0, 0, 0, 0, 0));
        digestOf("", Check.NOTHING, "");
        digestOf("", Check.NOTHING, " ");
        digestOf("", Check.NOTHING, "~0,;ctbsk9~~~~~~~ ab");
    }

    /** The numbers as the document lists these, by the calls themselves; the page's letters as they were written. */
    private static void digestOf(String text, Consumer<CountOut> ready, String page) {
        CountOut x = text.isEmpty() ? new CountOut() : Check.made(text);
        ready.accept(x);
        Check.write(x, page);
        long got = x.digest();
        int children = x.count(0);
        long h = 1289;
        for (int child = 0; child < children; child++) {
            for (int what = 0; what <= 5; what++) {
                h = mixed(h, x.child(child, what));
            }
            h = mixed(h, x.begin(child, 7));
        }
        for (int verse = 0; verse < x.count(2); verse++) {
            h = mixed(h, x.verse(verse, 0), x.verse(verse, 1), x.verse(verse, 2));
        }
        if (children > 0) {
            h = mixed(h, x.last(3), x.stand(0, 5), x.lengths(), x.from());
        }
        if (children > 0 && x.child(0, 1) == 1 && x.child(1, 1) == 1) {
            h = mixed(h, x.game(0, 1, 0), x.game(0, 1, 1));
        }
        for (int child = 0; child < children; child++) {
            if (x.child(child, 1) == 1) {
                h = mixed(h, x.likely(child, 0), x.likely(child, 1));
            }
        }
        for (char sign : page.toCharArray()) {
            h = mixed(h, sign);
        }
        for (int what = 0; what <= 10; what++) {
            h = mixed(h, x.count(what));
        }
        Check.due("digest() of " + text + " and " + page, got, h);
        Check.due("digest() again", x.digest(), got);
    }

    private static void digestAsTold() {
        Check.sentence("digest: with a RING and CHILDREN 0 and 1 both IN game(); of each CHILD who is IN likely()");
        for (String text : new String[] {"01;cc", "01,02;bb", "07,50,99;ctbsk", "03,04,05;kstbcskt"}) {
            digestOf(text, Check.NOTHING, "");
            digestOf(text, Check.NOTHING, "01;c");
            digestOf(text, x -> x.say(0), "");
            digestOf(text, x -> { x.first(1); x.say(0); }, "");
            digestOf(text, x -> { x.say(0); x.say(0); }, " ~");
            digestOf(text, x -> { x.see(0, 1); x.turn(); x.see(1, 0); }, "");
            digestOf(text, x -> { x.be(0, 0); x.beats(0, 1); x.first(0); x.say(0); }, "");
            digestOf(text, x -> { x.be(1, 0); x.beats(0, 1); x.first(1); x.say(0); }, "");
            digestOf(text, x -> {
                for (int i = 0; i < 7; i++) {
                    x.say(0);
                }
            }, "");
        }
    }

    private static void digestChangesNothing() {
        Check.sentence("digest: it tells, and changes nothing");
        CountOut x = Check.made("01,02;sktb", y -> { y.see(1, 1); y.say(0); });
        long want = x.digest();
        Check.refused("01,02;sktb", y -> { y.see(1, 1); y.say(0); }, "digest()", CountOut::digest, want);
    }

    /** As many COUNTS as there can be: six calls make the RING, then each one takes two. */
    private static void as512CallsOfCounts() {
        Check.sentence("an object is used for at most 512 calls: as many COUNTS as there can be");
        CountOut x = Check.made("01;cc");
        for (int calls = 6; calls < 510; calls += 2) {
            int out = (calls - 6) / 2 % 2;
            Check.due("say(0) as call " + (calls + 1), x.say(0), out);
            Check.due("back(" + out + ") as call " + (calls + 2), x.back(out), 2);
        }
        Check.due("say(0) as call 511", x.say(0), 0);
        Check.due("count(6) as call 512", x.count(6), 253);
    }

    private static void as512CallsOfRings() {
        Check.sentence("an object is used for at most 512 calls: as many RINGS as there can be");
        CountOut x = new CountOut();
        for (int read = 1; read <= 85; read++) {
            WRITTEN.accept(x);
            Check.due("ring() as call " + 6 * read, x.ring(), 2);
        }
        Check.due("digest() as call 511", x.digest() == Check.made("01;cc").digest() + 84 ? 1 : 0, 1);
        Check.due("count(10) as call 512", x.count(10), 85);
    }
}
