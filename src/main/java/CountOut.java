/** Children in a ring, counted out by verses: what is done, what would be, and what is seen of a verse. */
public final class CountOut {
    public static final int NONE = -1, UNKNOWN = -101, OUTSIDE = -102, STATE = -103, FULL = -104;

    private static final int CHILD = 0, TWIN = 1, BABY = 2, SLY = 3, KING = 4;
    private static final String KIND_LETTERS = "ctbsk";
    private static final int FEWEST_CHILDREN = 2, MOST_CHILDREN = 8, MOST_VERSES = 3;
    private static final int MOST_LETTERS = 20, MOST_BEATS = 99, MOST_COUNTS = 999, MOST_SEEN = 6;
    private static final int MOST_TRIED_BEATS = 60, MOST_LENGTH = 24, MOST_ROUNDS = 60;
    private static final int LIKELY_BEATS = 3;
    /** Each COUNT puts one OUT and needs two, so eight CHILDREN come to seven. */
    private static final int MOST_IN_A_ROW = MOST_CHILDREN - 1;
    /** 3 to the 7: as many ways as seven COUNTS of 1 to 3 BEATS can go. */
    private static final int ALL_WAYS = 2187;
    private static final int WIN = 2, DRAW = 1, LOSS = 0;

    private final Page page;
    private final Scene scene;
    private final Scene kept;
    private final Foresight foresight;
    private boolean isKept;
    private int ringsRead;

    public CountOut() {
        Scene now = new Scene();
        page = new Page();
        scene = now;
        kept = new Scene();
        foresight = new Foresight(now);
    }

    // ---- the ring

    public int letter(int code) {
        if (code < 32 || code > 126) {
            return OUTSIDE;
        }
        return page.append(code) ? page.size : FULL;
    }

    public int blank() {
        int had = page.size;
        page.size = 0;
        return had;
    }

    public int fault() {
        return page.firstFault();
    }

    public int ring() {
        if (!page.isRing()) {
            return STATE;
        }
        scene.setUp(page);
        page.size = 0;
        isKept = false;
        ringsRead++;
        return scene.circle.size;
    }

    // ---- children, verses

    public int child(int child, int what) {
        if (!scene.hasChild(child)) {
            return UNKNOWN;
        }
        Circle circle = scene.circle;
        switch (what) {
            case 0: return circle.kindOf(child);
            case 1: return circle.isIn(child) ? 1 : 0;
            case 2: return circle.hasSlipped(child) ? 1 : 0;
            case 3: return circle.takenBy(child);
            case 4: return foresight.fewestBeats(child);
            case 5: return circle.first == child ? 1 : 0;
            default: return OUTSIDE;
        }
    }

    public int as(int child, int kind) {
        if (!scene.hasChild(child)) {
            return UNKNOWN;
        }
        if (!isKind(kind)) {
            return OUTSIDE;
        }
        int own = scene.circle.kindOf(child);
        boolean isSuch = kind == CHILD || kind == own || (kind == SLY && own == KING);
        return isSuch ? child : NONE;
    }

    public int verse(int verse, int what) {
        if (!scene.hasVerse(verse)) {
            return UNKNOWN;
        }
        int beats = scene.beats[verse];
        switch (what) {
            case 0: return beats;
            case 1: return foresight.outBy(scene.circle.first, beats);
            case 2: return foresight.leftBy(beats);
            default: return OUTSIDE;
        }
    }

    // ---- what is done

    public int say(int verse) {
        if (!scene.hasVerse(verse)) {
            return UNKNOWN;
        }
        if (!scene.circle.canCount()) {
            return STATE;
        }
        if (scene.counts >= MOST_COUNTS) {
            return FULL;
        }
        scene.counts++;
        return scene.circle.putOut(scene.beats[verse]);
    }

    public int back(int child) {
        if (!scene.hasChild(child)) {
            return UNKNOWN;
        }
        if (scene.circle.isIn(child)) {
            return STATE;
        }
        scene.circle.inside |= 1 << child;
        return scene.circle.howManyIn();
    }

    public int first(int child) {
        if (!scene.hasChild(child)) {
            return UNKNOWN;
        }
        int was = scene.circle.first;
        scene.circle.first = child;
        return was;
    }

    public int turn() {
        if (!scene.hasRing()) {
            return STATE;
        }
        boolean was = scene.circle.onward;
        scene.circle.onward = !was;
        return was ? 1 : 0;
    }

    public int beats(int verse, int beats) {
        if (!scene.hasVerse(verse)) {
            return UNKNOWN;
        }
        if (!isBeats(beats)) {
            return OUTSIDE;
        }
        int had = scene.beats[verse];
        scene.beats[verse] = beats;
        return had;
    }

    public int be(int child, int kind) {
        if (!scene.hasChild(child)) {
            return UNKNOWN;
        }
        if (!isKind(kind)) {
            return OUTSIDE;
        }
        int was = scene.circle.kindOf(child);
        scene.circle.become(child, kind);
        return was;
    }

    // ---- what would be

    public int last(int beats) {
        if (!isBeats(beats)) {
            return OUTSIDE;
        }
        return scene.hasRing() ? foresight.leftBy(beats) : STATE;
    }

    public int begin(int child, int beats) {
        if (!scene.hasChild(child)) {
            return UNKNOWN;
        }
        return isBeats(beats) ? foresight.startsFor(child, beats) : OUTSIDE;
    }

    public int stand(int kind, int beats) {
        if (!isKind(kind) || !isBeats(beats)) {
            return OUTSIDE;
        }
        return scene.hasRing() ? foresight.placesFor(kind, beats) : STATE;
    }

    public int game(int a, int b, int what) {
        if (!scene.hasChild(a) || !scene.hasChild(b) || a == b) {
            return UNKNOWN;
        }
        if (what < 0 || what > 1) {
            return OUTSIDE;
        }
        if (!scene.circle.isIn(a) || !scene.circle.isIn(b)) {
            return STATE;
        }
        return what == 0 ? foresight.bestFor(a, b) : foresight.verseFor(a, b);
    }

    public int likely(int child, int what) {
        if (!scene.hasChild(child)) {
            return UNKNOWN;
        }
        if (what < 0 || what > 1) {
            return OUTSIDE;
        }
        if (!scene.circle.isIn(child)) {
            return STATE;
        }
        return foresight.chanceOf(child, what == 0);
    }

    // ---- what is seen

    public int see(int from, int out) {
        if (!scene.hasChild(from) || !scene.hasChild(out)) {
            return UNKNOWN;
        }
        return scene.keepSeen(from, out) ? scene.seen : FULL;
    }

    public int forget() {
        int was = scene.seen;
        scene.seen = 0;
        return was;
    }

    public int lengths() {
        return scene.hasRing() ? foresight.lengthBits() : STATE;
    }

    public int from() {
        return scene.hasRing() ? foresight.tellingStart(foresight.lengthBits()) : STATE;
    }

    public int rounds(int times, int seed, int what) {
        if (times < 1 || times > MOST_ROUNDS || seed < 0 || what < 0 || what > 2) {
            return OUTSIDE;
        }
        return scene.hasRing() ? foresight.playRounds(times, seed, what) : STATE;
    }

    // ---- what is told of all

    public int image() {
        if (!scene.hasRing()) {
            return STATE;
        }
        kept.takeAll(scene);
        isKept = true;
        return kept.counts;
    }

    public int restore() {
        if (!isKept) {
            return STATE;
        }
        scene.takeAll(kept);
        return scene.counts;
    }

    public int count(int what) {
        Circle circle = scene.circle;
        switch (what) {
            case 0: return circle.size;
            case 1: return circle.howManyIn();
            case 2: return scene.verses;
            case 3: return Integer.bitCount(circle.slipped);
            case 4: return circle.first;
            case 5: return circle.onward ? 1 : 0;
            case 6: return scene.counts;
            case 7: return circle.takenTogether();
            case 8: return scene.seen;
            case 9: return page.size;
            case 10: return ringsRead;
            default: return OUTSIDE;
        }
    }

    // It stays one method, although long: a helper for each part would make the deepest calls nine deep.
    public long digest() {
        long h = 1289;
        int children = scene.circle.size;
        for (int child = 0; child < children; child++) {
            for (int what = 0; what <= 5; what++) {
                h = 31 * h + child(child, what);
            }
            h = 31 * h + begin(child, 7);
        }
        for (int verse = 0; verse < scene.verses; verse++) {
            for (int what = 0; what <= 2; what++) {
                h = 31 * h + verse(verse, what);
            }
        }
        if (scene.hasRing()) {
            h = 31 * h + last(3);
            h = 31 * h + stand(CHILD, 5);
            h = 31 * h + lengths();
            h = 31 * h + from();
        }
        if (scene.hasRing() && scene.circle.isIn(0) && scene.circle.isIn(1)) {
            h = 31 * h + game(0, 1, 0);
            h = 31 * h + game(0, 1, 1);
        }
        for (int child = 0; child < children; child++) {
            if (scene.circle.isIn(child)) {
                h = 31 * h + likely(child, 0);
                h = 31 * h + likely(child, 1);
            }
        }
        for (int place = 0; place < page.size && place < page.letters.length; place++) {
            h = 31 * h + page.letters[place];
        }
        for (int what = 0; what <= 10; what++) {
            h = 31 * h + count(what);
        }
        return h;
    }

    private static boolean isKind(int kind) {
        return kind >= CHILD && kind <= KING;
    }

    private static boolean isBeats(int beats) {
        return beats >= 1 && beats <= MOST_BEATS;
    }

    /** THE PAGE, and how far it reads as a RING. */
    private static final class Page {
        private static final int TENS = 0, ONES = 1, BETWEEN = 2, CHILDREN = 3;

        private final int[] letters = new int[MOST_LETTERS];
        private int size;

        private int due;
        private int tens;
        private final int[] beats = new int[MOST_VERSES];
        private int verses;
        private final int[] kinds = new int[MOST_CHILDREN];
        private int children;

        boolean append(int code) {
            if (size < 0 || size >= letters.length) {
                return false;
            }
            letters[size] = code;
            size++;
            return true;
        }

        boolean isRing() {
            return firstFault() == size && children >= FEWEST_CHILDREN;
        }

        int firstFault() {
            due = TENS;
            verses = 0;
            children = 0;
            for (int place = 0; place < size && place < letters.length; place++) {
                if (!reads(letters[place])) {
                    return place;
                }
            }
            return size;
        }

        private boolean reads(int code) {
            switch (due) {
                case TENS: return readsTens(code);
                case ONES: return readsOnes(code);
                case BETWEEN: return readsBetween(code);
                default: return readsChild(code);
            }
        }

        private boolean readsTens(int code) {
            if (code < '0' || code > '9') {
                return false;
            }
            tens = code - '0';
            due = ONES;
            return true;
        }

        private boolean readsOnes(int code) {
            int number = 10 * tens + code - '0';
            if (code < '0' || code > '9' || number < 1 || verses >= beats.length) {
                return false;
            }
            beats[verses] = number;
            verses++;
            due = BETWEEN;
            return true;
        }

        private boolean readsBetween(int code) {
            if (code == ',' && verses < MOST_VERSES) {
                due = TENS;
                return true;
            }
            if (code == ';') {
                due = CHILDREN;
                return true;
            }
            return false;
        }

        private boolean readsChild(int code) {
            int kind = KIND_LETTERS.indexOf((char) code);
            if (kind < 0 || children >= kinds.length) {
                return false;
            }
            kinds[children] = kind;
            children++;
            return true;
        }
    }

    /** All that an IMAGE keeps. Without a RING its circle has nobody. */
    private static final class Scene {
        private final Circle circle = new Circle();
        private final int[] beats = new int[MOST_VERSES];
        private int verses;
        private int counts;
        private final int[] seenFrom = new int[MOST_SEEN];
        private final int[] seenOut = new int[MOST_SEEN];
        private int seen;

        boolean hasRing() {
            return circle.size > 0;
        }

        boolean hasChild(int child) {
            return child >= 0 && child < circle.size;
        }

        boolean hasVerse(int verse) {
            return verse >= 0 && verse < verses && verse < beats.length;
        }

        boolean keepSeen(int from, int out) {
            if (seen < 0 || seen >= MOST_SEEN) {
                return false;
            }
            seenFrom[seen] = from;
            seenOut[seen] = out;
            seen++;
            return true;
        }

        void setUp(Page page) {
            circle.clear();
            for (int child = 0; child < page.children && child < page.kinds.length; child++) {
                circle.addBehind(page.kinds[child]);
            }
            verses = page.verses;
            System.arraycopy(page.beats, 0, beats, 0, MOST_VERSES);
            counts = 0;
            seen = 0;
        }

        void takeAll(Scene other) {
            circle.takeAll(other.circle);
            verses = other.verses;
            System.arraycopy(other.beats, 0, beats, 0, MOST_VERSES);
            counts = other.counts;
            seen = other.seen;
            System.arraycopy(other.seenFrom, 0, seenFrom, 0, MOST_SEEN);
            System.arraycopy(other.seenOut, 0, seenOut, 0, MOST_SEEN);
        }
    }

    /**
     * The CHILDREN as they stand, and the COUNT. Sets of CHILDREN are bits of an int, so that a trial of what would
     * be needs no objects. There may be nine (STAND).
     */
    private static final class Circle {
        private int size;
        private int twins;
        private int babies;
        /** KINGS are among these. */
        private int sly;
        private int kings;
        private int inside;
        private int slipped;
        private int first;
        private boolean onward;

        void clear() {
            size = 0;
            twins = 0;
            babies = 0;
            sly = 0;
            kings = 0;
            inside = 0;
            slipped = 0;
            first = 0;
            onward = true;
        }

        void takeAll(Circle other) {
            size = other.size;
            twins = other.twins;
            babies = other.babies;
            sly = other.sly;
            kings = other.kings;
            inside = other.inside;
            slipped = other.slipped;
            first = other.first;
            onward = other.onward;
        }

        void addBehind(int kind) {
            inside |= 1 << size;
            become(size, kind);
            size++;
        }

        /** A new one stands ahead of the one at that place; who stands from there on moves up by one. */
        void addAhead(int place, int kind) {
            twins = movedUp(twins, place);
            babies = movedUp(babies, place);
            sly = movedUp(sly, place);
            kings = movedUp(kings, place);
            slipped = movedUp(slipped, place);
            inside = movedUp(inside, place) | 1 << place;
            if (first >= place) {
                first++;
            }
            size++;
            become(place, kind);
        }

        private static int movedUp(int set, int place) {
            int below = (1 << place) - 1;
            return (set & below) | (set & ~below) << 1;
        }

        void become(int child, int kind) {
            int bit = 1 << child;
            twins = kind == TWIN ? twins | bit : twins & ~bit;
            babies = kind == BABY ? babies | bit : babies & ~bit;
            sly = kind == SLY || kind == KING ? sly | bit : sly & ~bit;
            kings = kind == KING ? kings | bit : kings & ~bit;
            slipped &= ~bit;
        }

        int kindOf(int child) {
            int bit = 1 << child;
            if ((twins & bit) != 0) {
                return TWIN;
            }
            if ((babies & bit) != 0) {
                return BABY;
            }
            if ((kings & bit) != 0) {
                return KING;
            }
            return (sly & bit) != 0 ? SLY : CHILD;
        }

        boolean isIn(int child) {
            return (inside >> child & 1) != 0;
        }

        boolean hasSlipped(int child) {
            return (slipped >> child & 1) != 0;
        }

        int takenBy(int child) {
            int bit = 1 << child;
            if ((babies & bit) != 0) {
                return 0;
            }
            return (twins & bit) != 0 ? 2 : 1;
        }

        int takenTogether() {
            return Integer.bitCount(inside & ~babies) + Integer.bitCount(inside & twins);
        }

        int howManyIn() {
            return Integer.bitCount(inside);
        }

        int onlyOneIn() {
            return Integer.bitCount(inside) == 1 ? Integer.numberOfTrailingZeros(inside) : NONE;
        }

        void allComeBack() {
            inside = (1 << size) - 1;
            slipped = 0;
        }

        boolean canCount() {
            return (inside & ~babies) != 0 && Integer.bitCount(inside) >= 2;
        }

        /** A COUNT: who is OUT; NONE if there is none. */
        int putOut(int beats) {
            if (!canCount()) {
                return NONE;
            }
            int out = slipOn(fallsOn(beats));
            inside &= ~(1 << out);
            first = nextOf(inside, out);
            return out;
        }

        /** Who is left by COUNTS of these BEATS. */
        int countDown(int beats) {
            for (int i = 0; i < size && canCount(); i++) {
                putOut(beats);
            }
            return onlyOneIn();
        }

        /** Whole turns of the ring change nothing and BABIES take no BEAT, so one turn of the others is walked. */
        private int fallsOn(int beats) {
            int takers = inside & ~babies;
            int together = Integer.bitCount(takers) + Integer.bitCount(takers & twins);
            int rest = together > 0 ? (beats - 1) % together : 0;
            int at = (takers >> first & 1) != 0 ? first : nextOf(takers, first);
            for (int i = 0; i < size; i++) {
                rest -= takenBy(at);
                if (rest < 0) {
                    break;
                }
                at = nextOf(takers, at);
            }
            return at;
        }

        /** At whom it STOPS in the end. Each one slips once, so as many steps as there are CHILDREN are enough. */
        private int slipOn(int fallen) {
            int takers = inside & ~babies;
            int at = fallen;
            for (int i = 0; i < size; i++) {
                int bit = 1 << at;
                if ((sly & ~slipped & bit) == 0 || (takers & ~bit) == 0) {
                    break;
                }
                slipped |= bit;
                if ((kings & bit) != 0) {
                    onward = !onward;
                }
                at = nextOf(takers, at);
            }
            return at;
        }

        /** The next one of a set, as the count goes; it comes back to the place itself, if no other one is in the set. */
        private int nextOf(int set, int place) {
            int at = place;
            for (int i = 0; i < size; i++) {
                if (onward) {
                    at = at + 1 < size ? at + 1 : 0;
                } else {
                    at = at > 0 ? at - 1 : size - 1;
                }
                if ((set >> at & 1) != 0) {
                    break;
                }
            }
            return at;
        }

        /** What COUNTS change, as one number, so that a search can take a COUNT back. */
        int pose() {
            int pose = onward ? 1 : 0;
            pose = pose << 4 | first;
            pose = pose << 9 | slipped;
            return pose << 9 | inside;
        }

        void takePose(int pose) {
            inside = pose & 511;
            slipped = pose >> 9 & 511;
            first = pose >> 18 & 15;
            onward = pose >> 22 != 0;
        }

        /** All of a circle of at most eight as one number that is not negative. */
        long key() {
            long key = size;
            key = key << 8 | twins;
            key = key << 8 | babies;
            key = key << 8 | sly;
            key = key << 8 | kings;
            return key << 23 | pose();
        }
    }

    /** What would be: tried on a circle of its own, so that nothing is changed. */
    private static final class Foresight {
        private final Scene scene;
        private final Circle trial = new Circle();
        /** The latest answers that cost most, and of what circle they are; so they can't be out of date. */
        private final int[] lasts = new int[MOST_TRIED_BEATS + 1];
        private long lastsKey = -1;
        private final int[] ways = new int[MOST_CHILDREN];
        private long waysKey = -1;
        private final int[] tally = new int[MOST_CHILDREN];
        private int verseSaid;

        Foresight(Scene scene) {
            this.scene = scene;
        }

        int outBy(int start, int beats) {
            trial.takeAll(scene.circle);
            trial.first = start;
            return trial.putOut(beats);
        }

        int leftBy(int beats) {
            trial.takeAll(scene.circle);
            return trial.countDown(beats);
        }

        int fewestBeats(int child) {
            long key = scene.circle.key();
            if (key != lastsKey) {
                for (int beats = 1; beats < lasts.length; beats++) {
                    lasts[beats] = leftBy(beats);
                }
                lastsKey = key;
            }
            for (int beats = 1; beats < lasts.length; beats++) {
                if (lasts[beats] == child) {
                    return beats;
                }
            }
            return NONE;
        }

        int startsFor(int child, int beats) {
            int bits = 0;
            for (int start = 0; start < scene.circle.size; start++) {
                if (scene.circle.isIn(start)) {
                    trial.takeAll(scene.circle);
                    trial.first = start;
                    bits |= trial.countDown(beats) == child ? 1 << start : 0;
                }
            }
            return bits;
        }

        int placesFor(int kind, int beats) {
            int bits = 0;
            for (int place = 0; place <= scene.circle.size; place++) {
                trial.takeAll(scene.circle);
                trial.addAhead(place, kind);
                bits |= trial.countDown(beats) == place ? 1 << place : 0;
            }
            return bits;
        }

        int bestFor(int a, int b) {
            trial.takeAll(scene.circle);
            return worth(a, b, 0);
        }

        int verseFor(int a, int b) {
            trial.takeAll(scene.circle);
            worth(a, b, 0);
            return verseSaid;
        }

        /** What he who says can come to; which VERSE he says stays in verseSaid. */
        private int worth(int own, int others, int depth) {
            if (depth >= MOST_IN_A_ROW || !trial.canCount()) {
                verseSaid = NONE;
                return DRAW;
            }
            int pose = trial.pose();
            int best = NONE;
            int bestVerse = NONE;
            for (int verse = 0; verse < MOST_VERSES && scene.hasVerse(verse) && best < WIN; verse++) {
                int out = trial.putOut(scene.beats[verse]);
                int come;
                if (out == own) {
                    come = LOSS;
                } else if (out == others) {
                    come = WIN;
                } else {
                    come = WIN - worth(others, own, depth + 1);
                }
                trial.takePose(pose);
                if (come > best) {
                    best = come;
                    bestVerse = verse;
                }
            }
            verseSaid = bestVerse;
            return best;
        }

        int chanceOf(int child, boolean above) {
            long key = scene.circle.key();
            if (key != waysKey) {
                for (int i = 0; i < ways.length; i++) {
                    ways[i] = 0;
                }
                trial.takeAll(scene.circle);
                shareOut(ALL_WAYS, 0);
                waysKey = key;
            }
            int part = child >= 0 && child < ways.length ? ways[child] : 0;
            int whole = ALL_WAYS;
            for (int i = 0; i < MOST_IN_A_ROW && part % LIKELY_BEATS == 0; i++) {
                part /= LIKELY_BEATS;
                whole /= LIKELY_BEATS;
            }
            return above ? part : whole;
        }

        /** So many of all ways come to the trial as it is: they are added to the one who is left by each. */
        private void shareOut(int share, int depth) {
            if (depth >= MOST_IN_A_ROW || !trial.canCount()) {
                int left = trial.onlyOneIn();
                if (left >= 0 && left < ways.length) {
                    ways[left] += share;
                }
                return;
            }
            int pose = trial.pose();
            for (int beats = 1; beats <= LIKELY_BEATS; beats++) {
                trial.putOut(beats);
                shareOut(share / LIKELY_BEATS, depth + 1);
                trial.takePose(pose);
            }
        }

        int lengthBits() {
            int bits = (1 << MOST_LENGTH) - 1;
            for (int i = 0; i < scene.seen && i < MOST_SEEN; i++) {
                for (int beats = 1; beats <= MOST_LENGTH; beats++) {
                    if (outBy(scene.seenFrom[i], beats) != scene.seenOut[i]) {
                        bits &= ~(1 << (beats - 1));
                    }
                }
            }
            return bits;
        }

        int tellingStart(int lengths) {
            if (lengths == 0 || !scene.circle.canCount()) {
                return NONE;
            }
            int best = NONE;
            int fewest = MOST_LENGTH + 1;
            for (int start = 0; start < scene.circle.size; start++) {
                int left = mostLeft(start, lengths);
                if (left < fewest) {
                    fewest = left;
                    best = start;
                }
            }
            return best;
        }

        /** How many of these lengths are left at worst, when it is known who is OUT. */
        private int mostLeft(int start, int lengths) {
            for (int i = 0; i < tally.length; i++) {
                tally[i] = 0;
            }
            int most = 0;
            for (int beats = 1; beats <= MOST_LENGTH; beats++) {
                if ((lengths >> (beats - 1) & 1) != 0) {
                    int out = outBy(start, beats);
                    if (out >= 0 && out < tally.length) {
                        tally[out]++;
                        most = Math.max(most, tally[out]);
                    }
                }
            }
            return most;
        }

        int playRounds(int times, int seed, int what) {
            trial.takeAll(scene.circle);
            int drawn = seed;
            int timesBack = 0;
            for (int i = 0; i < times; i++) {
                if (trial.canCount()) {
                    drawn = (int) ((1103515245L * drawn + 12345L) % 2147483648L);
                    trial.putOut(beatsDrawn(drawn));
                } else {
                    trial.allComeBack();
                    timesBack++;
                }
            }
            if (what == 0) {
                return timesBack;
            }
            return what == 1 ? trial.first : drawn;
        }

        private int beatsDrawn(int drawn) {
            int verse = scene.verses > 0 ? drawn / 65536 % scene.verses : 0;
            return scene.hasVerse(verse) ? scene.beats[verse] : 1;
        }
    }
}
