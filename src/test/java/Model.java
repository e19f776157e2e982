import java.math.BigInteger;
import java.util.ArrayList;
import java.util.HashMap;
import java.util.List;
import java.util.Map;
import java.util.regex.Matcher;
import java.util.regex.Pattern;

/**
 * The document told again in the slowest and plainest way: objects for children, one beat at a time, copies for what
 * would be. It shares no thought with the class under test, so that the two can be held against one another.
 */
final class Model {
    static final int NONE = -1, UNKNOWN = -101, OUTSIDE = -102, STATE = -103, FULL = -104;
    private static final String VERSE = "(0[1-9]|[1-9][0-9])";
    private static final Pattern RING = Pattern.compile(VERSE + "(," + VERSE + "){0,2};[ctbsk]{2,8}");

    static final class Kid {
        char kind;
        boolean in = true;
        boolean slipped;

        Kid(char kind) {
            this.kind = kind;
        }

        int takes() {
            return kind == 't' ? 2 : kind == 'b' ? 0 : 1;
        }

        boolean isSly() {
            return kind == 's' || kind == 'k';
        }
    }

    static final class Ring {
        List<Kid> kids = new ArrayList<>();
        Kid first;
        int way = 1;

        Ring copy() {
            Ring copy = new Ring();
            copy.way = way;
            for (Kid kid : kids) {
                Kid twin = new Kid(kid.kind);
                twin.in = kid.in;
                twin.slipped = kid.slipped;
                copy.kids.add(twin);
            }
            copy.first = copy.kids.get(kids.indexOf(first));
            return copy;
        }

        Ring copyFrom(int start) {
            Ring copy = copy();
            copy.first = copy.kids.get(start);
            return copy;
        }

        Kid beside(Kid kid) {
            int n = kids.size();
            return kids.get((kids.indexOf(kid) + way + n) % n);
        }

        Kid nextIn(Kid kid) {
            Kid next = beside(kid);
            while (!next.in) {
                next = beside(next);
            }
            return next;
        }

        List<Kid> insiders() {
            List<Kid> in = new ArrayList<>();
            for (Kid kid : kids) {
                if (kid.in) {
                    in.add(kid);
                }
            }
            return in;
        }

        boolean canCount() {
            boolean onlyBabies = true;
            for (Kid kid : insiders()) {
                onlyBabies &= kid.kind == 'b';
            }
            return insiders().size() >= 2 && !onlyBabies;
        }

        int count(int beats) {
            if (!canCount()) {
                return NONE;
            }
            Kid at = first.in ? first : nextIn(first);
            int said = at.takes();
            while (said < beats) {
                at = nextIn(at);
                said += at.takes();
            }
            while (at.isSly() && !at.slipped && anotherTakes(at)) {
                at.slipped = true;
                way = at.kind == 'k' ? -way : way;
                do {
                    at = nextIn(at);
                } while (at.kind == 'b');
            }
            at.in = false;
            first = nextIn(at);
            return kids.indexOf(at);
        }

        boolean anotherTakes(Kid kid) {
            for (Kid other : insiders()) {
                if (other != kid && other.kind != 'b') {
                    return true;
                }
            }
            return false;
        }

        int last(int beats) {
            while (canCount()) {
                count(beats);
            }
            return insiders().size() == 1 ? kids.indexOf(insiders().get(0)) : NONE;
        }
    }

    private String page = "";
    private Ring ring;
    private List<Integer> verses = new ArrayList<>();
    private int counts;
    private List<int[]> seen = new ArrayList<>();
    private int rings;
    private Ring keptRing;
    private List<Integer> keptVerses;
    private int keptCounts;
    private List<int[]> keptSeen;

    int letter(int code) {
        if (code < 32 || code > 126) {
            return OUTSIDE;
        }
        if (page.length() == 20) {
            return FULL;
        }
        page += (char) code;
        return page.length();
    }

    int blank() {
        int had = page.length();
        page = "";
        return had;
    }

    int fault() {
        for (int length = 1; length <= page.length(); length++) {
            Matcher matcher = RING.matcher(page.substring(0, length));
            if (!matcher.matches() && !matcher.hitEnd()) {
                return length - 1;
            }
        }
        return page.length();
    }

    int ring() {
        if (!RING.matcher(page).matches()) {
            return STATE;
        }
        String[] parts = page.split(";");
        verses = new ArrayList<>();
        for (String verse : parts[0].split(",")) {
            verses.add(Integer.parseInt(verse));
        }
        ring = new Ring();
        for (char kind : parts[1].toCharArray()) {
            ring.kids.add(new Kid(kind));
        }
        ring.first = ring.kids.get(0);
        counts = 0;
        seen = new ArrayList<>();
        keptRing = null;
        rings++;
        page = "";
        return ring.kids.size();
    }

    private boolean noKid(int child) {
        return ring == null || child < 0 || child >= ring.kids.size();
    }

    private boolean noVerse(int verse) {
        return verse < 0 || verse >= verses.size();
    }

    int child(int child, int what) {
        if (noKid(child)) {
            return UNKNOWN;
        }
        Kid kid = ring.kids.get(child);
        return switch (what) {
            case 0 -> "ctbsk".indexOf(kid.kind);
            case 1 -> kid.in ? 1 : 0;
            case 2 -> kid.slipped ? 1 : 0;
            case 3 -> kid.takes();
            case 4 -> fewest(child);
            case 5 -> ring.first == kid ? 1 : 0;
            default -> OUTSIDE;
        };
    }

    private int fewest(int child) {
        for (int beats = 1; beats <= 60; beats++) {
            if (ring.copy().last(beats) == child) {
                return beats;
            }
        }
        return NONE;
    }

    int as(int child, int kind) {
        if (noKid(child)) {
            return UNKNOWN;
        }
        if (kind < 0 || kind > 4) {
            return OUTSIDE;
        }
        Kid kid = ring.kids.get(child);
        boolean such = switch (kind) {
            case 0 -> true;
            case 3 -> kid.isSly();
            default -> kid.kind == "ctbsk".charAt(kind);
        };
        return such ? child : NONE;
    }

    int verse(int verse, int what) {
        if (noVerse(verse)) {
            return UNKNOWN;
        }
        return switch (what) {
            case 0 -> verses.get(verse);
            case 1 -> ring.copy().count(verses.get(verse));
            case 2 -> ring.copy().last(verses.get(verse));
            default -> OUTSIDE;
        };
    }

    int say(int verse) {
        if (noVerse(verse)) {
            return UNKNOWN;
        }
        if (!ring.canCount()) {
            return STATE;
        }
        if (counts >= 999) {
            return FULL;
        }
        counts++;
        return ring.count(verses.get(verse));
    }

    int back(int child) {
        if (noKid(child)) {
            return UNKNOWN;
        }
        if (ring.kids.get(child).in) {
            return STATE;
        }
        ring.kids.get(child).in = true;
        return ring.insiders().size();
    }

    int first(int child) {
        if (noKid(child)) {
            return UNKNOWN;
        }
        int was = ring.kids.indexOf(ring.first);
        ring.first = ring.kids.get(child);
        return was;
    }

    int turn() {
        if (ring == null) {
            return STATE;
        }
        ring.way = -ring.way;
        return ring.way == 1 ? 0 : 1;
    }

    int beats(int verse, int beats) {
        if (noVerse(verse)) {
            return UNKNOWN;
        }
        if (beats < 1 || beats > 99) {
            return OUTSIDE;
        }
        return verses.set(verse, beats);
    }

    int be(int child, int kind) {
        if (noKid(child)) {
            return UNKNOWN;
        }
        if (kind < 0 || kind > 4) {
            return OUTSIDE;
        }
        Kid kid = ring.kids.get(child);
        int was = "ctbsk".indexOf(kid.kind);
        kid.kind = "ctbsk".charAt(kind);
        kid.slipped = false;
        return was;
    }

    int last(int beats) {
        if (beats < 1 || beats > 99) {
            return OUTSIDE;
        }
        return ring == null ? STATE : ring.copy().last(beats);
    }

    int begin(int child, int beats) {
        if (noKid(child)) {
            return UNKNOWN;
        }
        if (beats < 1 || beats > 99) {
            return OUTSIDE;
        }
        int bits = 0;
        for (int start = 0; start < ring.kids.size(); start++) {
            if (ring.kids.get(start).in && ring.copyFrom(start).last(beats) == child) {
                bits += 1 << start;
            }
        }
        return bits;
    }

    int stand(int kind, int beats) {
        if (kind < 0 || kind > 4 || beats < 1 || beats > 99) {
            return OUTSIDE;
        }
        if (ring == null) {
            return STATE;
        }
        int bits = 0;
        for (int place = 0; place <= ring.kids.size(); place++) {
            Ring wider = ring.copy();
            wider.kids.add(place, new Kid("ctbsk".charAt(kind)));
            if (wider.last(beats) == place) {
                bits += 1 << place;
            }
        }
        return bits;
    }

    int game(int a, int b, int what) {
        if (noKid(a) || noKid(b) || a == b) {
            return UNKNOWN;
        }
        if (what != 0 && what != 1) {
            return OUTSIDE;
        }
        if (!ring.kids.get(a).in || !ring.kids.get(b).in) {
            return STATE;
        }
        return game(ring, a, b)[what];
    }

    /** What he who says now, for own, comes to, and by which verse. */
    private int[] game(Ring now, int own, int other) {
        if (!now.canCount()) {
            return new int[] {1, NONE};
        }
        int[] best = {-1, NONE};
        for (int verse = 0; verse < verses.size(); verse++) {
            Ring then = now.copy();
            int out = then.count(verses.get(verse));
            int worth = out == own ? 0 : out == other ? 2 : 2 - game(then, other, own)[0];
            if (worth > best[0]) {
                best = new int[] {worth, verse};
            }
        }
        return best;
    }

    int likely(int child, int what) {
        if (noKid(child)) {
            return UNKNOWN;
        }
        if (what != 0 && what != 1) {
            return OUTSIDE;
        }
        if (!ring.kids.get(child).in) {
            return STATE;
        }
        BigInteger[] chance = chance(ring, child);
        BigInteger common = chance[0].gcd(chance[1]);
        return chance[what].divide(common).intValueExact();
    }

    /** As a fraction: above, below. */
    private static BigInteger[] chance(Ring now, int child) {
        if (!now.canCount()) {
            boolean alone = now.insiders().size() == 1 && now.kids.get(child).in;
            return new BigInteger[] {alone ? BigInteger.ONE : BigInteger.ZERO, BigInteger.ONE};
        }
        BigInteger above = BigInteger.ZERO;
        BigInteger below = BigInteger.ONE;
        for (int beats = 1; beats <= 3; beats++) {
            Ring then = now.copy();
            then.count(beats);
            BigInteger[] part = chance(then, child);
            above = above.multiply(part[1]).add(part[0].multiply(below));
            below = below.multiply(part[1]);
            BigInteger common = above.gcd(below);
            above = above.divide(common);
            below = below.divide(common);
        }
        return new BigInteger[] {above, below.multiply(BigInteger.valueOf(3))};
    }

    int see(int from, int out) {
        if (noKid(from) || noKid(out)) {
            return UNKNOWN;
        }
        if (seen.size() == 6) {
            return FULL;
        }
        seen.add(new int[] {from, out});
        return seen.size();
    }

    int forget() {
        int was = seen.size();
        seen = new ArrayList<>();
        return was;
    }

    private List<Integer> possible() {
        List<Integer> possible = new ArrayList<>();
        for (int beats = 1; beats <= 24; beats++) {
            boolean so = true;
            for (int[] one : seen) {
                so &= ring.copyFrom(one[0]).count(beats) == one[1];
            }
            if (so) {
                possible.add(beats);
            }
        }
        return possible;
    }

    int lengths() {
        if (ring == null) {
            return STATE;
        }
        int bits = 0;
        for (int beats : possible()) {
            bits += 1 << (beats - 1);
        }
        return bits;
    }

    int from() {
        if (ring == null) {
            return STATE;
        }
        if (possible().isEmpty() || !ring.canCount()) {
            return NONE;
        }
        int best = NONE;
        int fewest = Integer.MAX_VALUE;
        for (int start = 0; start < ring.kids.size(); start++) {
            Map<Integer, Integer> left = new HashMap<>();
            for (int beats : possible()) {
                left.merge(ring.copyFrom(start).count(beats), 1, Integer::sum);
            }
            int worst = left.values().stream().mapToInt(Integer::intValue).max().orElseThrow();
            if (worst < fewest) {
                fewest = worst;
                best = start;
            }
        }
        return best;
    }

    int rounds(int times, int seed, int what) {
        if (times < 1 || times > 60 || seed < 0 || what < 0 || what > 2) {
            return OUTSIDE;
        }
        if (ring == null) {
            return STATE;
        }
        Ring then = ring.copy();
        BigInteger drawn = BigInteger.valueOf(seed);
        int backs = 0;
        for (int i = 0; i < times; i++) {
            if (then.canCount()) {
                drawn = drawn.multiply(BigInteger.valueOf(1103515245)).add(BigInteger.valueOf(12345))
                        .mod(BigInteger.TWO.pow(31));
                int verse = drawn.shiftRight(16).mod(BigInteger.valueOf(verses.size())).intValueExact();
                then.count(verses.get(verse));
            } else {
                for (Kid kid : then.kids) {
                    kid.in = true;
                    kid.slipped = false;
                }
                backs++;
            }
        }
        return what == 0 ? backs : what == 1 ? then.kids.indexOf(then.first) : drawn.intValueExact();
    }

    int image() {
        if (ring == null) {
            return STATE;
        }
        keptRing = ring.copy();
        keptVerses = new ArrayList<>(verses);
        keptCounts = counts;
        keptSeen = new ArrayList<>(seen);
        return counts;
    }

    int restore() {
        if (keptRing == null) {
            return STATE;
        }
        ring = keptRing.copy();
        verses = new ArrayList<>(keptVerses);
        counts = keptCounts;
        seen = new ArrayList<>(keptSeen);
        return counts;
    }

    int count(int what) {
        if (what < 0 || what > 10) {
            return OUTSIDE;
        }
        if (what == 6 || what == 8) {
            return what == 6 ? counts : seen.size();
        }
        if (what >= 9) {
            return what == 9 ? page.length() : rings;
        }
        if (ring == null) {
            return 0;
        }
        int slipped = 0;
        int beats = 0;
        for (Kid kid : ring.kids) {
            slipped += kid.slipped ? 1 : 0;
            beats += kid.in ? kid.takes() : 0;
        }
        return switch (what) {
            case 0 -> ring.kids.size();
            case 1 -> ring.insiders().size();
            case 2 -> verses.size();
            case 3 -> slipped;
            case 4 -> ring.kids.indexOf(ring.first);
            case 5 -> ring.way == 1 ? 1 : 0;
            default -> beats;
        };
    }

    long digest() {
        List<Integer> told = new ArrayList<>();
        int children = ring == null ? 0 : ring.kids.size();
        for (int child = 0; child < children; child++) {
            for (int what = 0; what <= 5; what++) {
                told.add(child(child, what));
            }
            told.add(begin(child, 7));
        }
        for (int verse = 0; verse < verses.size(); verse++) {
            for (int what = 0; what <= 2; what++) {
                told.add(verse(verse, what));
            }
        }
        if (ring != null) {
            told.addAll(List.of(last(3), stand(0, 5), lengths(), from()));
            if (ring.kids.get(0).in && ring.kids.get(1).in) {
                told.addAll(List.of(game(0, 1, 0), game(0, 1, 1)));
            }
        }
        for (int child = 0; child < children; child++) {
            if (ring.kids.get(child).in) {
                told.addAll(List.of(likely(child, 0), likely(child, 1)));
            }
        }
        for (char letter : page.toCharArray()) {
            told.add((int) letter);
        }
        for (int what = 0; what <= 10; what++) {
            told.add(count(what));
        }
        long h = 1289;
        for (int number : told) {
            h = 31 * h + number;
        }
        return h;
    }
}
