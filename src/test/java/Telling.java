import java.util.function.IntSupplier;

/** All that an object tells of itself, in fewer than 300 calls, the last of which change it. */
final class Telling {
    private final CountOut x;
    private final StringBuilder told = new StringBuilder();

    private Telling(CountOut x) {
        this.x = x;
    }

    static String all(CountOut x) {
        Telling telling = new Telling(x);
        telling.whatIs();
        telling.whatWouldBe();
        telling.whatIsSeen();
        telling.whatIsKept();
        return telling.told.toString();
    }

    private void tell(String call, long answer) {
        told.append(call).append(" = ").append(answer).append('\n');
    }

    private void tell(String call, IntSupplier answer) {
        tell(call, answer.getAsInt());
    }

    private void whatIs() {
        tell("digest()", x.digest());
        tell("fault()", x.fault());
        for (int what = 0; what <= 10; what++) {
            tell("count(" + what + ")", x.count(what));
        }
        for (int child = 0; child < 8; child++) {
            for (int what = 0; what <= 5; what++) {
                tell("child(" + child + ", " + what + ")", x.child(child, what));
            }
        }
        for (int verse = 0; verse < 3; verse++) {
            for (int what = 0; what <= 2; what++) {
                tell("verse(" + verse + ", " + what + ")", x.verse(verse, what));
            }
        }
    }

    private void whatWouldBe() {
        for (int beats = 1; beats <= 5; beats++) {
            tell("last(" + beats + ")", x.last(beats));
            tell("stand(" + (beats - 1) + ", " + beats + ")", x.stand(beats - 1, beats));
        }
        for (int child = 0; child < 8; child++) {
            tell("begin(" + child + ", 3)", x.begin(child, 3));
            tell("likely(" + child + ", 0)", x.likely(child, 0));
            tell("game(" + child + ", 1, 0)", x.game(child, 1, 0));
            tell("game(0, " + child + ", 1)", x.game(0, child, 1));
        }
        for (int what = 0; what <= 2; what++) {
            tell("rounds(30, 5, " + what + ")", x.rounds(30, 5, what));
        }
    }

    /** What is SEEN is told by LENGTHS alone, so these are asked as things are and as they are made to be. */
    private void whatIsSeen() {
        tell("lengths()", x::lengths);
        tell("from()", x::from);
        tell("turn()", x::turn);
        tell("lengths() turned", x::lengths);
        for (int child = 0; child < 8; child++) {
            tell("back(" + child + ")", x.back(child));
            tell("be(" + child + ", 0)", x.be(child, 0));
        }
        tell("lengths() of plain ones", x::lengths);
    }

    private void whatIsKept() {
        tell("restore()", x::restore);
        for (int what = 0; what <= 10; what++) {
            tell("count(" + what + ") restored", x.count(what));
        }
        tell("lengths() restored", x::lengths);
        tell("digest() restored", x.digest());
        tell("letter(99)", x.letter(99));
        tell("fault()", x::fault);
        tell("forget()", x::forget);
        tell("see(0, 0)", x.see(0, 0));
        tell("say(0)", x.say(0));
        tell("digest() at the end", x.digest());
    }
}
