/**
 * A party line: farms on one wire, the tale that they tell one another, and what can be asked about it.
 * The document's promises say what each public call answers.
 */
public final class PartyLine {
    public static final int NONE = -1;

    private static final int NO_SUCH = -2;
    private static final int CANNOT_BE = -3;
    private static final int TOO_MANY = -4;
    private static final int NOT_NOW = -5;
    private static final int MISSING = -6;
    private static final int NO_NUMBER = -7;
    private static final int WHY_NOT = -10;
    private static final int FAULTY = -30;
    private static final int NO_LIKING = -99000002;

    private static final int MOST_FARMS = 8;
    private static final int MOST_MOMENTS = 8;
    private static final int MOST_BITS = 12;
    private static final int MOST_MOOD = 9;
    private static final int MOST_SNOW = 10;
    private static final int MOST_OPEN = 6;
    private static final int MOST_UNDONE = 10;
    private static final int MOST_TURNS = 99;
    private static final int MOST_TIMES = 40;
    private static final int MOST_STEPS = 15;
    private static final int MOST_TOLD = 12;
    private static final int TAPE_BYTES = 900;
    private static final int TRAYS = 4;
    private static final int TRAY_NUMBERS = 40;
    private static final int SORTS = 4;
    private static final int IMAGES = 2;

    private static final int NO_SUCH_THING = 1;
    private static final int OTHER_MOMENT = 2;
    private static final int NOT_ALLOWED = 3;

    private static final int CUT_DEEDS = 1000;
    private static final int MOOD_DEEDS = 2000;

    private static final int FAULT_NOTHING = 1;
    private static final int FAULT_PLACE = 2;
    private static final int FAULT_BOUNDS = 3;
    private static final int FAULT_MANY = 4;

    // Kinds of tokens: a sign is its own character, a word its place in WORDS behind FARMS.
    private static final int END = 0;
    private static final int NOTHING = 1;
    private static final int NUMBER = 2;
    private static final String SIGNS = ";:+-*()[]=<>";
    private static final String WORDS = "farms moments bit to must farm wish mood cut snow at tells hears likes now or and not from teller far moment ";
    private static final int FARMS = 256;
    private static final int MOMENTS = 257;
    private static final int BIT = 258;
    private static final int TO = 259;
    private static final int MUST = 260;
    private static final int FARM = 261;
    private static final int WISH = 262;
    private static final int MOOD = 263;
    private static final int CUT = 264;
    private static final int SNOW = 265;
    private static final int AT = 266;
    private static final int TELLS = 267;
    private static final int HEARS = 268;
    private static final int LIKES = 269;
    private static final int NOW = 270;
    private static final int OR = 271;
    private static final int AND = 272;
    private static final int NOT = 273;
    private static final int FROM = 274;
    private static final int TELLER = 275;
    private static final int FAR = 276;
    private static final int MOMENT = 277;
    private static final int UNKNOWN = 400;

    private static final int LAWS = 3;
    private static final int TELLS_LAW = 0;
    private static final int HEARS_LAW = 1;
    private static final int LIKES_LAW = 2;
    private static final int LAW_NAMES = 5;
    private static final int LAW_LIMIT = 1000000;
    // Six open brackets hold at most six waiting operators and operands each; this is well above.
    private static final int LAW_PILE = 64;

    private final byte[] tape = new byte[TAPE_BYTES];
    private int tapeLength;
    private final Reader reader = new Reader();
    private final World world = new World();
    private final State before = new State();
    private final Past past = new Past();
    private final Tray[] trays = new Tray[TRAYS];
    private final Line[] imageLines = new Line[IMAGES];
    private final State[] imageStates = new State[IMAGES];
    private final Ways finder = new Ways(world);
    private final Game game = new Game(world);
    private final Rows guesses = new Rows(world);
    private final int[] covers = new int[MOST_FARMS];

    public PartyLine() {
        for (int i = 0; i < TRAYS; i++) {
            trays[i] = new Tray();
        }
    }

    // ---- the line

    public int feed(int a, int b, int c, int d, int e) {
        if (tapeLength + 20 > TAPE_BYTES) {
            return NOT_NOW;
        }
        putBytes(a);
        putBytes(b);
        putBytes(c);
        putBytes(d);
        putBytes(e);
        return tapeLength;
    }

    private void putBytes(int four) {
        for (int shift = 24; shift >= 0 && tapeLength < TAPE_BYTES; shift -= 8) {
            tape[tapeLength] = (byte) (four >>> shift);
            tapeLength++;
        }
    }

    public int line(int n) {
        if (n < 0 || n > tapeLength) {
            return CANNOT_BE;
        }
        tapeLength = 0;
        int wrong = reader.readText(tape, n);
        if (wrong != 0) {
            return FAULTY - wrong;
        }
        world.plan.copyFrom(reader.draft);
        world.now.begin(world.plan);
        past.forget();
        return world.plan.lines;
    }

    public int fault(int what) {
        if (what == 0) {
            return reader.faultKind;
        }
        return what == 1 ? reader.faultPlace : NONE;
    }

    public int farm(int f, int what) {
        if (!world.isFarm(f)) {
            return NO_SUCH;
        }
        switch (what) {
            case 0: return world.now.moments[f];
            case 1: return world.now.doubts[f];
            case 2: return world.now.moods[f];
            case 3: return world.plan.wishes[f];
            case 4: return world.heardFarms(f);
            case 5: return world.allowedBits(f) & world.plan.bitsFrom(world.now.moments[f]);
            default: return NO_SUCH;
        }
    }

    public int bit(int b, int what) {
        if (!world.isBit(b)) {
            return NO_SUCH;
        }
        switch (what) {
            case 0: return world.plan.from[b];
            case 1: return world.plan.to[b];
            case 2: return world.plan.must >> b & 1;
            case 3: return world.allowedFarms(b);
            default: return NO_SUCH;
        }
    }

    public int wire(int k, int what) {
        if (!world.isWire(k)) {
            return NO_SUCH;
        }
        switch (what) {
            case 0: return world.now.cuts >> k & 1;
            case 1: return world.plan.snows[k];
            default: return NO_SUCH;
        }
    }

    public int likes(int f, int m) {
        if (!world.isFarm(f) || !world.isMoment(m)) {
            return NO_LIKING;
        }
        return world.liking(f, m);
    }

    // ---- deeds

    public int tell(int f, int b) {
        int why = world.whyNotTell(f, b);
        if (why != 0) {
            return WHY_NOT - why;
        }
        past.keep(world.now);
        return world.say(f, b);
    }

    public int cut(int k) {
        if (!world.isWire(k)) {
            return WHY_NOT - NO_SUCH_THING;
        }
        past.keep(world.now);
        world.now.cuts ^= 1 << k;
        return world.now.cuts >> k & 1;
    }

    public int mood(int f, int n) {
        if (!world.isFarm(f) || n < 0 || n > MOST_MOOD) {
            return WHY_NOT - NO_SUCH_THING;
        }
        past.keep(world.now);
        int was = world.now.moods[f];
        world.now.moods[f] = n;
        return was;
    }

    public int go(int n) {
        if (n < 1 || n > MOST_TURNS) {
            return CANNOT_BE;
        }
        past.keep(world.now);
        int told = world.now.told;
        for (int i = 0; i < n; i++) {
            world.attempt(NONE);
        }
        return world.now.told - told;
    }

    public int undo(int n) {
        if (n < 1 || n > MOST_UNDONE || n > past.kept) {
            return CANNOT_BE;
        }
        past.bringBack(n, world.now);
        return past.kept;
    }

    public int judge(int tray, int what) {
        if (!isTray(tray) || what < 0 || what > 3) {
            return NO_SUCH;
        }
        Tray deeds = trays[tray];
        if (deeds.isMissing()) {
            return MISSING;
        }
        before.copyFrom(world.now);
        int answer = verdict(deeds, what, world.doAll(deeds));
        world.now.copyFrom(before);
        return answer;
    }

    private int verdict(Tray deeds, int what, int done) {
        boolean all = done >= deeds.size;
        switch (what) {
            case 0: return all ? NONE : done;
            case 1: return all ? 0 : world.whyNot(deeds.at(done));
            case 2: return world.unlikeMoments();
            default: return world.allDoubts();
        }
    }

    public int perform(int tray) {
        if (!isTray(tray)) {
            return NO_SUCH;
        }
        if (trays[tray].isMissing()) {
            return MISSING;
        }
        before.copyFrom(world.now);
        return keptIfAny(world.doAll(trays[tray]));
    }

    public int winter(int seed, int times) {
        if (times < 1 || times > MOST_TIMES) {
            return CANNOT_BE;
        }
        before.copyFrom(world.now);
        return keptIfAny(world.haveWinter(seed, times));
    }

    /** A call that did nothing must not be there to be undone. */
    private int keptIfAny(int done) {
        if (done > 0) {
            past.keep(before);
        }
        return done;
    }

    // ---- who hears whom

    public int heardBy(int f) {
        return world.isFarm(f) ? world.hearers(f) : NO_SUCH;
    }

    public int ear() {
        int best = 0;
        int most = -1;
        for (int f = 0; f < world.plan.farms; f++) {
            int heard = Integer.bitCount(world.heardFarms(f));
            if (heard > most) {
                most = heard;
                best = f;
            }
        }
        return best;
    }

    public int needs(int f, int g) {
        if (!areTwo(f, g)) {
            return NO_SUCH;
        }
        return world.hearsFrom(f, g) ? wiresBetween(f, g) : 0;
    }

    public int pieces() {
        return Integer.bitCount(world.now.cuts) + 1;
    }

    public int listeners() {
        int farms = world.plan.farms;
        for (int f = 0; f < farms; f++) {
            covers[f] = world.heardFarms(f) | 1 << f;
        }
        int all = (1 << farms) - 1;
        int best = all;
        for (int set = 1; set < all; set++) {
            if (Integer.bitCount(set) < Integer.bitCount(best) && covered(set) == all) {
                best = set;
            }
        }
        return best;
    }

    private int covered(int set) {
        int answer = 0;
        for (int f = 0; f < MOST_FARMS; f++) {
            if ((set >> f & 1) != 0) {
                answer |= covers[f];
            }
        }
        return answer;
    }

    // ---- ways of the tale

    public int reach(int m) {
        return world.isMoment(m) ? finder.reached(m) : NO_SUCH;
    }

    public int fewest(int from, int to) {
        return areMoments(from, to) ? finder.find(from, to, 0) : NO_SUCH;
    }

    public int way(int from, int to, int i) {
        return placeOfWay(from, to, i, 0);
    }

    public long ways(int from, int to, int n) {
        if (!areMoments(from, to)) {
            return NO_SUCH;
        }
        return n < 0 || n > MOST_STEPS ? CANNOT_BE : finder.howMany(from, to, n);
    }

    public int full(int from, int to) {
        return areMoments(from, to) ? finder.find(from, to, world.plan.must) : NO_SUCH;
    }

    public int fullWay(int from, int to, int i) {
        return placeOfWay(from, to, i, world.plan.must);
    }

    private int placeOfWay(int from, int to, int i, int must) {
        if (!areMoments(from, to)) {
            return NO_SUCH;
        }
        if (i < 0) {
            return CANNOT_BE;
        }
        return i < finder.find(from, to, must) ? finder.search.labelAt(i) : NONE;
    }

    public int ends() {
        int leading = 0;
        int tellable = world.tellableBits();
        for (int b = 0; b < world.plan.bits; b++) {
            if ((tellable >> b & 1) != 0) {
                leading |= 1 << world.plan.from[b];
            }
        }
        return (1 << world.plan.moments) - 1 & ~leading;
    }

    // ---- the game

    public int forces(int f, int m) {
        if (!world.isFarm(f) || !world.isMoment(m)) {
            return NO_SUCH;
        }
        game.learn();
        return game.turnsNeeded(f, m, 1 << f);
    }

    public int power(int f) {
        if (!world.isFarm(f)) {
            return NO_SUCH;
        }
        game.learn();
        int forced = 0;
        for (int m = 0; m < world.plan.moments; m++) {
            if (game.turnsNeeded(f, m, 1 << f) != NONE) {
                forced |= 1 << m;
            }
        }
        return forced;
    }

    public int best(int f, int m) {
        if (!world.isFarm(f) || !world.isMoment(m)) {
            return NO_SUCH;
        }
        if (world.now.turn != f) {
            return NOT_NOW;
        }
        game.learn();
        return game.firstBest(f, m);
    }

    public int ally(int f, int m) {
        if (!world.isFarm(f) || !world.isMoment(m)) {
            return NO_SUCH;
        }
        game.learn();
        if (game.turnsNeeded(f, m, 1 << f) != NONE) {
            return NONE;
        }
        for (int g = 0; g < world.plan.farms; g++) {
            if (g != f && game.turnsNeeded(f, m, 1 << f | 1 << g) != NONE) {
                return g;
            }
        }
        return NONE;
    }

    // ---- at one

    public int tales() {
        return world.unlikeMoments();
    }

    public int joins(int f, int g) {
        return areTwo(f, g) ? finder.findJoining(f, g) : NO_SUCH;
    }

    public int joinBy(int f, int g, int i) {
        if (!areTwo(f, g)) {
            return NO_SUCH;
        }
        if (i < 0) {
            return CANNOT_BE;
        }
        return i < finder.findJoining(f, g) ? finder.search.labelAt(i) : NONE;
    }

    // ---- what was told

    public long rows(int tray, int from) {
        int wrong = takeSeen(tray, from);
        return wrong != 0 ? wrong : guesses.howManySeen(from);
    }

    public int sureBit(int tray, int from, int place) {
        int wrong = takeSeen(tray, from);
        if (wrong != 0) {
            return wrong;
        }
        if (!guesses.hasPlace(place)) {
            return NO_NUMBER;
        }
        int could = guesses.bitsAt(from, place);
        return Integer.bitCount(could) == 1 ? Integer.numberOfTrailingZeros(could) : NONE;
    }

    private int takeSeen(int tray, int from) {
        if (!isTray(tray) || !world.isMoment(from)) {
            return NO_SUCH;
        }
        return guesses.take(trays[tray], NONE, world.plan.moments);
    }

    public long tellers(int tray) {
        int wrong = takeTold(tray);
        return wrong != 0 ? wrong : guesses.howManyTold();
    }

    public int teller(int tray, int place) {
        int wrong = takeTold(tray);
        if (wrong != 0) {
            return wrong;
        }
        return guesses.hasPlace(place) ? guesses.farmsAt(place) : NO_NUMBER;
    }

    private int takeTold(int tray) {
        return isTray(tray) ? guesses.take(trays[tray], 0, world.plan.bits) : NO_SUCH;
    }

    // ---- wishes

    public int better() {
        int answer = 0;
        for (int m = 0; m < world.plan.moments; m++) {
            if (isBetter(m)) {
                answer |= 1 << m;
            }
        }
        return answer;
    }

    private boolean isBetter(int m) {
        boolean more = false;
        for (int f = 0; f < world.plan.farms; f++) {
            int there = world.liking(f, m);
            int here = world.liking(f, world.now.moments[f]);
            if (there < here) {
                return false;
            }
            more |= there > here;
        }
        return more;
    }

    public int fairest() {
        int best = 0;
        for (int m = 1; m < world.plan.moments; m++) {
            if (leastLiking(m) > leastLiking(best)) {
                best = m;
            }
        }
        return best;
    }

    private int leastLiking(int m) {
        int least = LAW_LIMIT;
        for (int f = 0; f < world.plan.farms; f++) {
            least = Math.min(least, world.liking(f, m));
        }
        return least;
    }

    // ---- snow

    public long snow(int f, int g, int what) {
        if (!areTwo(f, g) || what < 0 || what > 1) {
            return NO_SUCH;
        }
        long above = world.wholeAbove(f, g);
        long below = world.wholeBelow(f, g);
        long shared = commonDivisor(above, below);
        long asked = what == 0 ? above : below;
        return shared > 1 ? asked / shared : asked;
    }

    private static long commonDivisor(long a, long b) {
        long x = a;
        long y = b;
        for (int i = 0; i < 100 && y != 0; i++) {
            long rest = x % y;
            x = y;
            y = rest;
        }
        return x;
    }

    public int left(int f, int m) {
        if (!world.isFarm(f)) {
            return NO_SUCH;
        }
        if (m < 0 || m > 100) {
            return CANNOT_BE;
        }
        int answer = 0;
        for (int g = 0; g < world.plan.farms; g++) {
            if (g != f && 100 * world.wholeAbove(f, g) >= m * world.wholeBelow(f, g)) {
                answer++;
            }
        }
        return answer;
    }

    // ---- trays, images

    public int numbers(int tray, int sort, int n) {
        if (!isTray(tray) || sort < 0 || sort >= SORTS) {
            return NO_SUCH;
        }
        if (n < 0 || n > TRAY_NUMBERS) {
            return CANNOT_BE;
        }
        trays[tray].lay(sort, n);
        return 0;
    }

    public long write(int tray, int i, long v) {
        if (!isTray(tray)) {
            return NO_SUCH;
        }
        Tray into = trays[tray];
        if (into.isMissing()) {
            return MISSING;
        }
        return i < 0 || i >= into.size ? NO_NUMBER : into.put(i, v);
    }

    public int lists(int tray, int from, int to) {
        if (!isTray(tray) || !areMoments(from, to)) {
            return NO_SUCH;
        }
        Tray into = trays[tray];
        if (into.isMissing()) {
            return MISSING;
        }
        int steps = finder.find(from, to, 0);
        if (steps == NONE) {
            return NOT_NOW;
        }
        int listed = Math.min(steps, into.size);
        for (int i = 0; i < listed; i++) {
            into.put(i, finder.search.labelAt(i));
        }
        return listed;
    }

    public int image(int i) {
        if (i < 0 || i >= IMAGES) {
            return NO_SUCH;
        }
        if (imageLines[i] == null || imageStates[i] == null) {
            imageLines[i] = new Line();
            imageStates[i] = new State();
        }
        imageLines[i].copyFrom(world.plan);
        imageStates[i].copyFrom(world.now);
        return 0;
    }

    public int restore(int i) {
        if (i < 0 || i >= IMAGES) {
            return NO_SUCH;
        }
        if (imageLines[i] == null || imageStates[i] == null) {
            return NOT_NOW;
        }
        world.plan.copyFrom(imageLines[i]);
        world.now.copyFrom(imageStates[i]);
        past.forget();
        return 0;
    }

    public int count(int what) {
        switch (what) {
            case 0: return world.plan.farms;
            case 1: return world.plan.moments;
            case 2: return world.plan.bits;
            case 3: return world.plan.must;
            case 4: return world.now.cuts;
            case 5: return world.now.turn;
            case 6: return world.now.told;
            case 7: return world.allDoubts();
            case 8: return past.kept;
            case 9: return tapeLength;
            case 10: return world.plan.lines;
            default: return NONE;
        }
    }

    private static boolean isTray(int tray) {
        return tray >= 0 && tray < TRAYS;
    }

    private boolean areTwo(int f, int g) {
        return world.isFarm(f) && world.isFarm(g) && f != g;
    }

    private boolean areMoments(int m, int n) {
        return world.isMoment(m) && world.isMoment(n);
    }

    /** Wires between two farms, as bits. */
    private static int wiresBetween(int f, int g) {
        return (1 << Math.max(f, g)) - (1 << Math.min(f, g));
    }

    /** What a text tells: all that deeds never change. */
    private static final class Line {
        int farms = 2;
        int moments = 2;
        int bits;
        int must;
        int cuts;
        int start;
        int lines;
        final int[] from = new int[MOST_BITS];
        final int[] to = new int[MOST_BITS];
        final int[] wishes = new int[MOST_FARMS];
        final int[] moods = new int[MOST_FARMS];
        final int[] snows = new int[MOST_FARMS];
        // Each token of a text becomes at most one piece of code, so a text's bytes bound it.
        final int[] code = new int[TAPE_BYTES];
        int codeLength;
        final int[] lawStart = new int[LAWS];
        final int[] lawLength = new int[LAWS];

        void empty() {
            bits = 0;
            must = 0;
            cuts = 0;
            start = 0;
            lines = 0;
            codeLength = 0;
            for (int f = 0; f < MOST_FARMS; f++) {
                wishes[f] = 0;
                moods[f] = 0;
                snows[f] = 0;
            }
            for (int law = 0; law < LAWS; law++) {
                lawLength[law] = 0;
            }
        }

        void copyFrom(Line other) {
            farms = other.farms;
            moments = other.moments;
            bits = other.bits;
            must = other.must;
            cuts = other.cuts;
            start = other.start;
            lines = other.lines;
            codeLength = other.codeLength;
            System.arraycopy(other.from, 0, from, 0, MOST_BITS);
            System.arraycopy(other.to, 0, to, 0, MOST_BITS);
            System.arraycopy(other.wishes, 0, wishes, 0, MOST_FARMS);
            System.arraycopy(other.moods, 0, moods, 0, MOST_FARMS);
            System.arraycopy(other.snows, 0, snows, 0, MOST_FARMS);
            System.arraycopy(other.code, 0, code, 0, codeLength);
            System.arraycopy(other.lawStart, 0, lawStart, 0, LAWS);
            System.arraycopy(other.lawLength, 0, lawLength, 0, LAWS);
        }

        void addCode(int piece) {
            if (codeLength < code.length) {
                code[codeLength] = piece;
                codeLength++;
            }
        }

        int bitsFrom(int moment) {
            int answer = 0;
            for (int b = 0; b < bits; b++) {
                if (from[b] == moment) {
                    answer |= 1 << b;
                }
            }
            return answer;
        }
    }

    /** All that deeds change and undoing brings back. */
    private static final class State {
        final int[] moments = new int[MOST_FARMS];
        final int[] doubts = new int[MOST_FARMS];
        final int[] moods = new int[MOST_FARMS];
        int cuts;
        int turn;
        int told;

        void begin(Line plan) {
            for (int f = 0; f < MOST_FARMS; f++) {
                moments[f] = plan.start;
                doubts[f] = 0;
                moods[f] = plan.moods[f];
            }
            cuts = plan.cuts;
            turn = 0;
            told = 0;
        }

        void copyFrom(State other) {
            System.arraycopy(other.moments, 0, moments, 0, MOST_FARMS);
            System.arraycopy(other.doubts, 0, doubts, 0, MOST_FARMS);
            System.arraycopy(other.moods, 0, moods, 0, MOST_FARMS);
            cuts = other.cuts;
            turn = other.turn;
            told = other.told;
        }
    }

    /** States ahead of the latest calls, the eldest first; the objects are used again and again. */
    private static final class Past {
        private final State[] states = new State[MOST_UNDONE];
        int kept;

        Past() {
            for (int i = 0; i < MOST_UNDONE; i++) {
                states[i] = new State();
            }
        }

        void keep(State state) {
            if (kept >= MOST_UNDONE) {
                forgetEldest();
            }
            states[kept].copyFrom(state);
            kept++;
        }

        private void forgetEldest() {
            State eldest = states[0];
            for (int i = 1; i < MOST_UNDONE; i++) {
                states[i - 1] = states[i];
            }
            states[MOST_UNDONE - 1] = eldest;
            kept = MOST_UNDONE - 1;
        }

        void bringBack(int n, State into) {
            if (n >= 1 && n <= kept) {
                kept -= n;
                into.copyFrom(states[kept]);
            }
        }

        void forget() {
            kept = 0;
        }
    }

    /** A row of numbers of one sort. */
    private static final class Tray {
        private final long[] row = new long[TRAY_NUMBERS];
        private int sort;
        int size = NONE;

        boolean isMissing() {
            return size < 0;
        }

        void lay(int newSort, int n) {
            sort = newSort;
            size = n;
            for (int i = 0; i < TRAY_NUMBERS; i++) {
                row[i] = 0;
            }
        }

        long at(int i) {
            return i >= 0 && i < size ? row[i] : 0;
        }

        long put(int i, long v) {
            long trimmed = trim(v);
            if (i >= 0 && i < size) {
                row[i] = trimmed;
            }
            return trimmed;
        }

        private long trim(long v) {
            switch (sort) {
                case 0: return (byte) v;
                case 1: return (short) v;
                case 2: return (int) v;
                default: return v;
            }
        }
    }

    /** The line as it stands: its plan, its state, its laws at work, and deeds. */
    private static final class World {
        final Line plan = new Line();
        final State now = new State();
        private final int[] named = new int[LAW_NAMES];
        private final int[] pile = new int[LAW_PILE];
        private int drawn;

        World() {
            now.begin(plan);
        }

        boolean isFarm(int f) {
            return f >= 0 && f < plan.farms;
        }

        boolean isMoment(int m) {
            return m >= 0 && m < plan.moments;
        }

        boolean isBit(int b) {
            return b >= 0 && b < plan.bits;
        }

        boolean isWire(int k) {
            return k >= 0 && k < plan.farms - 1;
        }

        boolean allows(int f, int b) {
            if (plan.lawLength[TELLS_LAW] == 0) {
                return true;
            }
            named[0] = f;
            named[1] = now.moods[f];
            named[2] = b;
            named[3] = plan.from[b];
            named[4] = plan.to[b];
            return lawValue(TELLS_LAW) != 0;
        }

        /** Bits that a farm may tell. */
        int allowedBits(int f) {
            int answer = 0;
            for (int b = 0; b < plan.bits; b++) {
                if (allows(f, b)) {
                    answer |= 1 << b;
                }
            }
            return answer;
        }

        /** Farms that may tell a bit. */
        int allowedFarms(int b) {
            int answer = 0;
            for (int f = 0; f < plan.farms; f++) {
                if (allows(f, b)) {
                    answer |= 1 << f;
                }
            }
            return answer;
        }

        /** Bits that some farm may tell. */
        int tellableBits() {
            int answer = 0;
            for (int b = 0; b < plan.bits; b++) {
                for (int f = 0; f < plan.farms && (answer >> b & 1) == 0; f++) {
                    if (allows(f, b)) {
                        answer |= 1 << b;
                    }
                }
            }
            return answer;
        }

        boolean hearsFrom(int f, int g) {
            if (f == g || (now.cuts & wiresBetween(f, g)) != 0) {
                return false;
            }
            if (plan.lawLength[HEARS_LAW] == 0) {
                return true;
            }
            named[0] = f;
            named[1] = now.moods[f];
            named[2] = g;
            named[3] = Math.abs(f - g);
            return lawValue(HEARS_LAW) != 0;
        }

        /** Whom a farm hears. */
        int heardFarms(int f) {
            int answer = 0;
            for (int g = 0; g < plan.farms; g++) {
                if (hearsFrom(f, g)) {
                    answer |= 1 << g;
                }
            }
            return answer;
        }

        /** Who hears a farm. */
        int hearers(int f) {
            int answer = 0;
            for (int g = 0; g < plan.farms; g++) {
                if (hearsFrom(g, f)) {
                    answer |= 1 << g;
                }
            }
            return answer;
        }

        int liking(int f, int m) {
            if (plan.lawLength[LIKES_LAW] == 0) {
                return plan.wishes[f] == m ? 1 : 0;
            }
            named[0] = f;
            named[1] = now.moods[f];
            named[2] = m;
            return lawValue(LIKES_LAW);
        }

        private int lawValue(int law) {
            int top = 0;
            int end = Math.min(plan.lawStart[law] + plan.lawLength[law], plan.code.length);
            for (int i = plan.lawStart[law]; i < end; i++) {
                int piece = plan.code[i];
                if (piece >= -LAW_NAMES) {
                    if (top < LAW_PILE) {
                        pile[top] = piece >= 0 ? piece : named[-1 - piece];
                        top++;
                    }
                } else if (piece == -NOT) {
                    if (top > 0) {
                        pile[top - 1] = 1 - pile[top - 1];
                    }
                } else if (top > 1) {
                    top--;
                    pile[top - 1] = joined(-piece, pile[top - 1], pile[top]);
                }
            }
            return top > 0 ? pile[top - 1] : 0;
        }

        private static int joined(int sign, long left, long right) {
            long value;
            switch (sign) {
                case '+': value = left + right; break;
                case '-': value = left - right; break;
                case '*': value = left * right; break;
                case '=': value = left == right ? 1 : 0; break;
                case '<': value = left < right ? 1 : 0; break;
                case '>': value = left > right ? 1 : 0; break;
                case AND: value = left & right; break;
                default: value = left | right; break;
            }
            return (int) Math.max(-LAW_LIMIT, Math.min(LAW_LIMIT, value));
        }

        int whyNotTell(int f, int b) {
            if (!isFarm(f) || !isBit(b)) {
                return NO_SUCH_THING;
            }
            if (now.moments[f] != plan.from[b]) {
                return OTHER_MOMENT;
            }
            return allows(f, b) ? 0 : NOT_ALLOWED;
        }

        int whyNot(long deed) {
            boolean fine = deed == NONE;
            if (deed >= 0 && deed < 900) {
                return whyNotTell((int) deed / 100, (int) deed % 100);
            }
            if (deed >= CUT_DEEDS && deed < CUT_DEEDS + 10) {
                fine = isWire((int) deed - CUT_DEEDS);
            }
            if (deed >= MOOD_DEEDS && deed < MOOD_DEEDS + 100) {
                fine = isFarm(((int) deed - MOOD_DEEDS) / 10);
            }
            return fine ? 0 : NO_SUCH_THING;
        }

        /** Does a deed of a tray, if it can be: why it can't. */
        int attempt(long deed) {
            int why = whyNot(deed);
            if (why != 0) {
                return why;
            }
            int v = (int) deed;
            if (v == NONE) {
                int b = firstBit(now.turn);
                if (b != NONE) {
                    say(now.turn, b);
                }
                now.turn = nextFarm(now.turn);
            } else if (v < CUT_DEEDS) {
                say(v / 100, v % 100);
            } else if (v < MOOD_DEEDS) {
                now.cuts ^= 1 << (v - CUT_DEEDS);
            } else {
                now.moods[(v - MOOD_DEEDS) / 10] = v % 10;
            }
            return 0;
        }

        int nextFarm(int f) {
            return f + 1 < plan.farms ? f + 1 : 0;
        }

        /** The first bit that a farm can tell now. */
        private int firstBit(int f) {
            for (int b = 0; b < plan.bits; b++) {
                if (plan.from[b] == now.moments[f] && allows(f, b)) {
                    return b;
                }
            }
            return NONE;
        }

        /** A farm tells a bit that it can tell: how many hear it. */
        int say(int f, int b) {
            int hearing = 0;
            for (int g = 0; g < plan.farms; g++) {
                if (hearsFrom(g, f)) {
                    hearing++;
                    if (now.moments[g] != plan.from[b]) {
                        now.doubts[g]++;
                    }
                    now.moments[g] = plan.to[b];
                }
            }
            now.moments[f] = plan.to[b];
            now.told++;
            return hearing;
        }

        /** Does a tray's deeds till one can't be: how many were done. */
        int doAll(Tray deeds) {
            for (int i = 0; i < deeds.size; i++) {
                if (attempt(deeds.at(i)) != 0) {
                    return i;
                }
            }
            return deeds.size;
        }

        int haveWinter(int seed, int times) {
            drawn = seed;
            int done = 0;
            for (int i = 0; i < times; i++) {
                if (attempt(drawnDeed()) == 0) {
                    done++;
                }
            }
            return done;
        }

        private int drawnDeed() {
            int sort = drawBelow(5);
            if (sort < 2) {
                return NONE;
            }
            int which = drawBelow(8);
            if (sort == 2) {
                return which * 100 + drawBelow(12);
            }
            return sort == 3 ? CUT_DEEDS + which : MOOD_DEEDS + which * 10 + drawBelow(10);
        }

        private int drawBelow(int bound) {
            drawn = 1103515245 * drawn + 12345;
            return bound > 0 ? (drawn >>> 16) % bound : 0;
        }

        int unlikeMoments() {
            int thought = 0;
            for (int f = 0; f < plan.farms; f++) {
                thought |= 1 << now.moments[f];
            }
            return Integer.bitCount(thought);
        }

        int allDoubts() {
            int sum = 0;
            for (int f = 0; f < plan.farms; f++) {
                sum += now.doubts[f];
            }
            return sum;
        }

        /** How likely no wire between two farms is cut behind snow, in wholeBelow(). */
        long wholeAbove(int f, int g) {
            int between = wiresBetween(f, g);
            if ((now.cuts & between) != 0) {
                return 0;
            }
            long above = 1;
            for (int k = 0; k < MOST_FARMS; k++) {
                if ((between >> k & 1) != 0) {
                    above *= MOST_SNOW - plan.snows[k];
                }
            }
            return above;
        }

        long wholeBelow(int f, int g) {
            long below = 1;
            for (int i = Math.abs(f - g); i > 0; i--) {
                below *= MOST_SNOW;
            }
            return below;
        }
    }

    /** Reads a text, token by token, into a draft; the first fault ends the reading. */
    private static final class Reader {
        final Line draft = new Line();
        int faultKind;
        int faultPlace = NONE;
        private final LawReader laws = new LawReader();
        private byte[] text = new byte[0];
        private int length;
        private int ahead;
        private int kind;
        private int place;
        private int value;

        int readText(byte[] bytes, int n) {
            text = bytes;
            length = Math.min(n, bytes.length);
            ahead = 0;
            faultKind = 0;
            faultPlace = NONE;
            draft.empty();
            advance();
            boolean fine = readFarms();
            for (int i = 0; i <= length && fine && kind != END; i++) {
                fine = readLine();
            }
            return faultKind;
        }

        private boolean readFarms() {
            if (!expect(FARMS)) {
                return false;
            }
            draft.farms = number(2, MOST_FARMS);
            if (draft.farms == NONE || !expect(MOMENTS)) {
                return false;
            }
            draft.moments = number(2, MOST_MOMENTS);
            return draft.moments != NONE && endLine();
        }

        private boolean readLine() {
            boolean fine;
            switch (kind) {
                case BIT: fine = readBit(); break;
                case FARM: fine = readFarm(); break;
                case CUT: fine = readCut(); break;
                case SNOW: fine = readSnow(); break;
                case TELLS: case HEARS: case LIKES: fine = readLaw(kind - TELLS); break;
                case NOW: fine = readNow(); break;
                default: fine = fail(FAULT_PLACE); break;
            }
            return fine && endLine();
        }

        private boolean endLine() {
            if (!expect(';')) {
                return false;
            }
            draft.lines++;
            return true;
        }

        private boolean readBit() {
            int b = draft.bits;
            if (b >= MOST_BITS) {
                return fail(FAULT_MANY);
            }
            advance();
            int from = number(0, draft.moments - 1);
            if (from == NONE || !expect(TO)) {
                return false;
            }
            int to = number(0, draft.moments - 1);
            if (to == NONE) {
                return false;
            }
            draft.from[b] = from;
            draft.to[b] = to;
            if (kind == MUST) {
                draft.must |= 1 << b;
                advance();
            }
            draft.bits++;
            return true;
        }

        private boolean readFarm() {
            advance();
            int f = number(0, draft.farms - 1);
            if (f == NONE) {
                return false;
            }
            for (int i = 0; i <= length && (kind == WISH || kind == MOOD); i++) {
                boolean wish = kind == WISH;
                advance();
                int flag = number(0, wish ? draft.moments - 1 : MOST_MOOD);
                if (flag == NONE) {
                    return false;
                }
                if (wish) {
                    draft.wishes[f] = flag;
                } else {
                    draft.moods[f] = flag;
                }
            }
            return true;
        }

        private boolean readCut() {
            advance();
            int k = number(0, draft.farms - 2);
            if (k == NONE) {
                return false;
            }
            draft.cuts |= 1 << k;
            return true;
        }

        private boolean readSnow() {
            advance();
            int likely = number(0, MOST_SNOW);
            if (likely == NONE || !expect(AT)) {
                return false;
            }
            int k = number(0, draft.farms - 2);
            if (k == NONE) {
                return false;
            }
            draft.snows[k] = likely;
            return true;
        }

        private boolean readNow() {
            advance();
            int m = number(0, draft.moments - 1);
            if (m == NONE) {
                return false;
            }
            draft.start = m;
            return true;
        }

        private boolean readLaw(int law) {
            advance();
            if (!expect(':')) {
                return false;
            }
            laws.begin(law, draft);
            for (int i = 0; i <= length; i++) {
                int wrong = laws.take(kind, value);
                if (wrong != 0) {
                    return fail(wrong);
                }
                if (laws.ended) {
                    return true;
                }
                advance();
            }
            return fail(FAULT_PLACE);
        }

        private boolean expect(int wanted) {
            if (kind != wanted) {
                return fail(FAULT_PLACE);
            }
            advance();
            return true;
        }

        /** A number that stands here, or NONE with a fault. */
        private int number(int low, int high) {
            if (kind != NUMBER) {
                fail(FAULT_PLACE);
                return NONE;
            }
            if (value < low || value > high) {
                fail(FAULT_BOUNDS);
                return NONE;
            }
            int answer = value;
            advance();
            return answer;
        }

        /** Of one token the least kind is told: that none begins so goes ahead of all. */
        private boolean fail(int wrong) {
            faultKind = kind == NOTHING ? FAULT_NOTHING : wrong;
            faultPlace = place;
            return false;
        }

        private void advance() {
            int i = ahead;
            while (i < length && (text[i] == 10 || text[i] == 32)) {
                i++;
            }
            place = i;
            ahead = i;
            if (i >= length) {
                kind = END;
            } else if (isSmall(text[i])) {
                takeWord();
            } else if (isDigit(text[i])) {
                takeNumber();
            } else {
                int sign = text[i] & 255;
                kind = SIGNS.indexOf((char) sign) >= 0 ? sign : NOTHING;
                ahead = i + 1;
            }
        }

        /** Takes a word and looks it up in WORDS, where a blank ends each. */
        private void takeWord() {
            while (ahead < length && isSmall(text[ahead])) {
                ahead++;
            }
            kind = UNKNOWN;
            int word = FARMS;
            int i = place;
            boolean alike = true;
            for (int k = 0; k < WORDS.length() && kind == UNKNOWN; k++) {
                char c = WORDS.charAt(k);
                if (c != ' ') {
                    alike = alike && i < ahead && text[i] == c;
                    i++;
                } else if (alike && i == ahead) {
                    kind = word;
                } else {
                    word++;
                    i = place;
                    alike = true;
                }
            }
        }

        private void takeNumber() {
            int i = place;
            value = 0;
            while (i < length && isDigit(text[i])) {
                if (i < place + 3) {
                    value = value * 10 + text[i] - '0';
                }
                i++;
            }
            ahead = i;
            kind = i - place > 3 ? NOTHING : NUMBER;
        }

        private static boolean isSmall(int c) {
            return c >= 'a' && c <= 'z';
        }

        private static boolean isDigit(int c) {
            return c >= '0' && c <= '9';
        }
    }

    /**
     * Turns a law's tokens into code that a pile can work off: operands ahead of their operators.
     * A stack of its own holds what is open, so that no call goes deeper with the law.
     */
    private static final class LawReader {
        private static final int UNIT_BEGINS = 0;
        private static final int ATOM_BEGINS = 1;
        private static final int ATOM_ENDS = 2;
        private static final int UNIT_ENDS = 3;

        boolean ended;
        private Line into;
        private int law;
        private final int[] open = new int[LAW_PILE];
        private int openCount;
        private int nots;
        private int rounds;
        private int squares;
        private int stage;
        private boolean compared;

        void begin(int whichLaw, Line draft) {
            law = whichLaw;
            into = draft;
            into.lawStart[law] = into.codeLength;
            into.lawLength[law] = 0;
            openCount = 0;
            nots = 0;
            rounds = 0;
            squares = 0;
            ended = false;
            beginUnit();
            if (law == LIKES_LAW) {
                stage = ATOM_BEGINS;
            }
        }

        private void beginUnit() {
            stage = UNIT_BEGINS;
            compared = false;
        }

        /** Takes one token: the kind of its fault, or 0. */
        int take(int kind, int value) {
            if (into == null) {
                return FAULT_PLACE;
            }
            if (stage == UNIT_BEGINS || stage == ATOM_BEGINS) {
                return opens(kind) ? takeOpening(kind) : takeAtom(kind, value);
            }
            if (!fitsBehind(kind)) {
                return FAULT_PLACE;
            }
            popDownTo(Math.max(1, rank(kind)));
            takeBehind(kind);
            return 0;
        }

        private boolean opens(int kind) {
            return kind == '(' || stage == UNIT_BEGINS && (kind == '[' || kind == NOT);
        }

        private int takeOpening(int kind) {
            if (nots + rounds + squares >= MOST_OPEN) {
                return FAULT_MANY;
            }
            push(kind);
            switch (kind) {
                case '(': rounds++; stage = ATOM_BEGINS; break;
                case '[': squares++; beginUnit(); break;
                default: nots++; beginUnit(); break;
            }
            return 0;
        }

        private int takeAtom(int kind, int value) {
            int name = nameOf(kind);
            if (kind != NUMBER && name == NONE) {
                return FAULT_PLACE;
            }
            into.addCode(kind == NUMBER ? value : -1 - name);
            stage = ATOM_ENDS;
            return 0;
        }

        /** Where World puts what a word of this law means. */
        private int nameOf(int word) {
            switch (word) {
                case FARM: return 0;
                case MOOD: return 1;
                case BIT: return law == TELLS_LAW ? 2 : NONE;
                case FROM: return law == TELLS_LAW ? 3 : NONE;
                case TO: return law == TELLS_LAW ? 4 : NONE;
                case TELLER: return law == HEARS_LAW ? 2 : NONE;
                case FAR: return law == HEARS_LAW ? 3 : NONE;
                case MOMENT: return law == LIKES_LAW ? 2 : NONE;
                default: return NONE;
            }
        }

        private boolean fitsBehind(int kind) {
            boolean sum = stage == ATOM_ENDS;
            boolean wholeSum = sum && rounds == 0;
            boolean wholeUnit = stage == UNIT_ENDS || wholeSum && compared;
            switch (kind) {
                case '+': case '-': case '*': return sum;
                case ')': return sum && rounds > 0;
                case '=': case '<': case '>': return wholeSum && law != LIKES_LAW && !compared;
                case AND: case OR: return wholeUnit;
                case ']': return wholeUnit && squares > 0;
                case ';': return law == LIKES_LAW ? wholeSum : wholeUnit && squares == 0;
                default: return false;
            }
        }

        private void takeBehind(int kind) {
            switch (kind) {
                case ')': openCount--; rounds--; stage = ATOM_ENDS; break;
                case ']': openCount--; squares--; stage = UNIT_ENDS; break;
                case ';': finish(); break;
                case AND: case OR: push(kind); beginUnit(); break;
                case '=': case '<': case '>': push(kind); compared = true; stage = ATOM_BEGINS; break;
                default: push(kind); stage = ATOM_BEGINS; break;
            }
        }

        private void finish() {
            into.lawLength[law] = into.codeLength - into.lawStart[law];
            ended = true;
        }

        private void push(int kind) {
            if (openCount < LAW_PILE) {
                open[openCount] = kind;
                openCount++;
            }
        }

        /** What binds as tightly or tighter is worked off first; brackets bind least of all. */
        private void popDownTo(int least) {
            for (int i = openCount - 1; i >= 0 && rank(open[i]) >= least; i--) {
                if (open[i] == NOT) {
                    nots--;
                }
                into.addCode(-open[i]);
                openCount = i;
            }
        }

        private static int rank(int kind) {
            switch (kind) {
                case OR: return 1;
                case AND: return 2;
                case NOT: return 3;
                case '=': case '<': case '>': return 4;
                case '+': case '-': return 5;
                case '*': return 6;
                default: return 0;
            }
        }
    }

    /**
     * A search through numbered places, nearest first. Places are offered in the order of their labels,
     * so that the first row of labels to a place is also the first of the shortest.
     */
    private static final class Search {
        private static final int LABELS = 1024;
        private static final int START = -1;

        int goal = NONE;
        private int[] came = new int[64];
        private int[] queue = new int[64];
        private int head;
        private int tail;

        void begin(int size, int start, int whither) {
            for (int i = 0; i < tail; i++) {
                came[queue[i]] = 0;
            }
            head = 0;
            tail = 0;
            if (size > came.length) {
                came = new int[size];
                queue = new int[size];
            }
            goal = whither;
            if (start >= 0 && start < came.length) {
                came[start] = START;
                queue[0] = start;
                tail = 1;
            }
        }

        int size() {
            return came.length;
        }

        /** The next place to go on from, or NONE: all are done, or the goal is reached. */
        int nextPlace() {
            if (head >= tail || isReached()) {
                return NONE;
            }
            head++;
            return queue[head - 1];
        }

        private boolean isReached() {
            return goal >= 0 && goal < came.length && came[goal] != 0;
        }

        void offer(int place, int from, int label) {
            if (place >= 0 && place < came.length && came[place] == 0 && tail < queue.length) {
                came[place] = from * LABELS + label + 1;
                queue[tail] = place;
                tail++;
            }
        }

        /** How many labels lead to the goal, or NONE. */
        int steps() {
            if (!isReached()) {
                return NONE;
            }
            int place = goal;
            int answer = 0;
            for (int i = 0; i < tail && came[place] > 0; i++) {
                place = (came[place] - 1) / LABELS;
                answer++;
            }
            return answer;
        }

        int labelAt(int i) {
            int place = goal;
            for (int k = steps() - 1; k > i; k--) {
                place = (came[place] - 1) / LABELS;
            }
            return isReached() && came[place] > 0 ? (came[place] - 1) % LABELS : NONE;
        }
    }

    /** Ways from moment to moment, and joinings, which are ways of two farms from pair to pair. */
    private static final class Ways {
        final Search search = new Search();
        private final World world;
        private final int[] marks = new int[MOST_BITS];
        // The bits that can be told, sorted by where they are from, and where those of each moment begin.
        private final int[] sorted = new int[MOST_BITS];
        private final int[] begins = new int[MOST_MOMENTS + 1];
        private long[] counts = new long[MOST_MOMENTS];
        private long[] nexts = new long[MOST_MOMENTS];

        Ways(World ofWorld) {
            world = ofWorld;
        }

        int reached(int m) {
            Line plan = world.plan;
            int tellable = world.tellableBits();
            int seen = 1 << m;
            for (int i = 0; i < MOST_MOMENTS; i++) {
                for (int b = 0; b < plan.bits; b++) {
                    if ((tellable >> b & 1) != 0 && (seen >> plan.from[b] & 1) != 0) {
                        seen |= 1 << plan.to[b];
                    }
                }
            }
            return seen;
        }

        long howMany(int from, int to, int n) {
            Line plan = world.plan;
            int tellable = world.tellableBits();
            for (int m = 0; m < MOST_MOMENTS; m++) {
                counts[m] = m == from ? 1 : 0;
            }
            for (int i = 0; i < n; i++) {
                for (int m = 0; m < MOST_MOMENTS; m++) {
                    nexts[m] = 0;
                }
                for (int b = 0; b < plan.bits; b++) {
                    if ((tellable >> b & 1) != 0) {
                        nexts[plan.to[b]] += counts[plan.from[b]];
                    }
                }
                long[] swapped = counts;
                counts = nexts;
                nexts = swapped;
            }
            return counts[to];
        }

        /** The first of the shortest ways by which each of the bits that must be told is told: how many bits. */
        int find(int from, int to, int must) {
            int tellable = world.tellableBits();
            if ((must & ~tellable) != 0) {
                return NONE;
            }
            int sets = markBits(must);
            sortBits(tellable);
            search.begin(sets * MOST_MOMENTS, from, (sets - 1) * MOST_MOMENTS + to);
            int most = search.size();
            for (int i = 0; i < most; i++) {
                int place = search.nextPlace();
                if (place == NONE) {
                    break;
                }
                spread(place);
            }
            return search.steps();
        }

        /** Gives each bit of a set a mark of its own: how many sets of marks there are. */
        private int markBits(int must) {
            int sets = 1;
            for (int b = 0; b < MOST_BITS; b++) {
                marks[b] = 0;
                if ((must >> b & 1) != 0) {
                    marks[b] = sets;
                    sets *= 2;
                }
            }
            return sets;
        }

        /** A search looks at many places: it must not go through all bits at each. */
        private void sortBits(int tellable) {
            Line plan = world.plan;
            int n = 0;
            for (int m = 0; m < MOST_MOMENTS; m++) {
                begins[m] = n;
                for (int b = 0; b < plan.bits; b++) {
                    if ((tellable >> b & 1) != 0 && plan.from[b] == m) {
                        sorted[n] = b;
                        n++;
                    }
                }
            }
            begins[MOST_MOMENTS] = n;
        }

        private void spread(int place) {
            int moment = place % MOST_MOMENTS;
            int told = place / MOST_MOMENTS;
            for (int i = begins[moment]; i < begins[moment + 1]; i++) {
                int b = sorted[i];
                search.offer((told | marks[b]) * MOST_MOMENTS + world.plan.to[b], place, b);
            }
        }

        /** The first of the shortest joinings of two farms: how many bits. */
        int findJoining(int f, int g) {
            int low = Math.min(f, g);
            int high = Math.max(f, g);
            int[] moments = world.now.moments;
            int start = moments[low] * MOST_MOMENTS + moments[high];
            search.begin(MOST_MOMENTS * MOST_MOMENTS, start, NONE);
            markAtOne(start);
            int lowBits = world.allowedBits(low);
            int highBits = world.allowedBits(high);
            boolean lowHears = world.hearsFrom(low, high);
            boolean highHears = world.hearsFrom(high, low);
            for (int i = 0; i < MOST_MOMENTS * MOST_MOMENTS; i++) {
                int place = search.nextPlace();
                if (place == NONE) {
                    break;
                }
                spreadLow(place, low, lowBits, highHears);
                spreadHigh(place, high, highBits, lowHears);
            }
            return search.steps();
        }

        private void spreadLow(int place, int low, int allowed, boolean heard) {
            Line plan = world.plan;
            for (int b = 0; b < plan.bits; b++) {
                if ((allowed >> b & 1) != 0 && plan.from[b] == place / MOST_MOMENTS) {
                    int other = heard ? plan.to[b] : place % MOST_MOMENTS;
                    offerPair(plan.to[b] * MOST_MOMENTS + other, place, low * 100 + b);
                }
            }
        }

        private void spreadHigh(int place, int high, int allowed, boolean heard) {
            Line plan = world.plan;
            for (int b = 0; b < plan.bits; b++) {
                if ((allowed >> b & 1) != 0 && plan.from[b] == place % MOST_MOMENTS) {
                    int other = heard ? plan.to[b] : place / MOST_MOMENTS;
                    offerPair(other * MOST_MOMENTS + plan.to[b], place, high * 100 + b);
                }
            }
        }

        private void offerPair(int pair, int from, int deed) {
            search.offer(pair, from, deed);
            markAtOne(pair);
        }

        /** The first pair that is at one becomes the goal: no other one is nearer. */
        private void markAtOne(int pair) {
            if (search.goal == NONE && pair / MOST_MOMENTS == pair % MOST_MOMENTS) {
                search.goal = pair;
            }
        }
    }

    /** The game of a farm, alone or with friends, against all others. */
    private static final class Game {
        private final World world;
        // Of each turn and moment, the moments to which that turn's farm can lead, as bits; none: it is silent.
        private final int[] leads = new int[MOST_FARMS * MOST_MOMENTS];
        // Of each turn, the moments from which it is forced within the turns looked at so far.
        private final int[] won = new int[MOST_FARMS];
        private final int[] wider = new int[MOST_FARMS];

        Game(World ofWorld) {
            world = ofWorld;
        }

        void learn() {
            Line plan = world.plan;
            for (int i = 0; i < leads.length; i++) {
                leads[i] = 0;
            }
            for (int f = 0; f < plan.farms; f++) {
                for (int b = 0; b < plan.bits; b++) {
                    if (world.allows(f, b)) {
                        leads[f * MOST_MOMENTS + plan.from[b]] |= 1 << plan.to[b];
                    }
                }
            }
        }

        /** Within how many turns a farm forces a moment, or NONE; won is then that of one turn less. */
        int turnsNeeded(int f, int m, int friends) {
            int moment = world.now.moments[f];
            if (moment == m) {
                return 0;
            }
            int farms = world.plan.farms;
            for (int t = 0; t < farms; t++) {
                won[t] = 1 << m;
            }
            for (int n = 1; n <= MOST_FARMS * MOST_MOMENTS; n++) {
                if (!widen(friends)) {
                    return NONE;
                }
                if ((wider[world.now.turn] >> moment & 1) != 0) {
                    return n;
                }
                System.arraycopy(wider, 0, won, 0, farms);
            }
            return NONE;
        }

        private boolean widen(int friends) {
            boolean grew = false;
            for (int t = 0; t < world.plan.farms; t++) {
                int behind = won[world.nextFarm(t)];
                boolean friend = (friends >> t & 1) != 0;
                wider[t] = won[t];
                for (int m = 0; m < world.plan.moments; m++) {
                    if (leadsInto(leads[t * MOST_MOMENTS + m], m, behind, friend)) {
                        wider[t] |= 1 << m;
                    }
                }
                grew |= wider[t] != won[t];
            }
            return grew;
        }

        private static boolean leadsInto(int whither, int m, int behind, boolean friend) {
            if (whither == 0) {
                return (behind >> m & 1) != 0;
            }
            return friend ? (whither & behind) != 0 : (whither & ~behind) == 0;
        }

        int firstBest(int f, int m) {
            if (turnsNeeded(f, m, 1 << f) < 1) {
                return NONE;
            }
            Line plan = world.plan;
            int behind = won[world.nextFarm(f)];
            int could = world.allowedBits(f) & plan.bitsFrom(world.now.moments[f]);
            for (int b = 0; b < plan.bits; b++) {
                if ((could >> b & 1) != 0 && (behind >> plan.to[b] & 1) != 0) {
                    return b;
                }
            }
            return NONE;
        }
    }

    /** Rows of bits that fit what was heard, and rows of farms that fit the bits that were told. */
    private static final class Rows {
        private final World world;
        private final int[] heard = new int[MOST_TOLD];
        private int length;
        private int tellable;
        private long[] counts = new long[MOST_FARMS];
        private long[] nexts = new long[MOST_FARMS];

        Rows(World ofWorld) {
            world = ofWorld;
        }

        /** Takes a tray's numbers, each from lowest on and below a bound: a code, or 0. */
        int take(Tray tray, int lowest, int bound) {
            if (tray.isMissing()) {
                return MISSING;
            }
            if (tray.size < 1 || tray.size > MOST_TOLD) {
                return TOO_MANY;
            }
            length = tray.size;
            for (int i = 0; i < length; i++) {
                long v = tray.at(i);
                if (v < lowest || v >= bound) {
                    return CANNOT_BE;
                }
                heard[i] = (int) v;
            }
            tellable = world.tellableBits();
            return 0;
        }

        boolean hasPlace(int place) {
            return place >= 0 && place < length;
        }

        private boolean fits(int i, int b) {
            return (tellable >> b & 1) != 0 && (heard[i] == NONE || heard[i] == world.plan.to[b]);
        }

        long howManySeen(int from) {
            Line plan = world.plan;
            for (int m = 0; m < MOST_MOMENTS; m++) {
                counts[m] = m == from ? 1 : 0;
            }
            for (int i = 0; i < length; i++) {
                for (int m = 0; m < MOST_MOMENTS; m++) {
                    nexts[m] = 0;
                }
                for (int b = 0; b < plan.bits; b++) {
                    if (fits(i, b)) {
                        nexts[plan.to[b]] += counts[plan.from[b]];
                    }
                }
                swap();
            }
            return sum();
        }

        private void swap() {
            long[] swapped = counts;
            counts = nexts;
            nexts = swapped;
        }

        private long sum() {
            long answer = 0;
            for (int i = 0; i < MOST_FARMS; i++) {
                answer += counts[i];
            }
            return answer;
        }

        /** Bits that are at a place in some row. */
        int bitsAt(int from, int place) {
            Line plan = world.plan;
            int ahead = 1 << from;
            for (int i = 0; i < place; i++) {
                int next = 0;
                for (int b = 0; b < plan.bits; b++) {
                    if (fits(i, b) && (ahead >> plan.from[b] & 1) != 0) {
                        next |= 1 << plan.to[b];
                    }
                }
                ahead = next;
            }
            int behind = momentsThatGoOn(place + 1);
            int answer = 0;
            for (int b = 0; b < plan.bits; b++) {
                if (fits(place, b) && (ahead >> plan.from[b] & 1) != 0 && (behind >> plan.to[b] & 1) != 0) {
                    answer |= 1 << b;
                }
            }
            return answer;
        }

        /** Moments from which bits can go on from a place to the end. */
        private int momentsThatGoOn(int place) {
            Line plan = world.plan;
            int behind = (1 << plan.moments) - 1;
            for (int i = length - 1; i >= place; i--) {
                int earlier = 0;
                for (int b = 0; b < plan.bits; b++) {
                    if (fits(i, b) && (behind >> plan.to[b] & 1) != 0) {
                        earlier |= 1 << plan.from[b];
                    }
                }
                behind = earlier;
            }
            return behind;
        }

        long howManyTold() {
            int first = world.allowedFarms(heard[0]);
            for (int f = 0; f < MOST_FARMS; f++) {
                counts[f] = first >> f & 1;
            }
            for (int i = 1; i < length; i++) {
                int may = world.allowedFarms(heard[i]);
                long all = sum();
                for (int f = 0; f < MOST_FARMS; f++) {
                    nexts[f] = (may >> f & 1) != 0 ? all - counts[f] : 0;
                }
                swap();
            }
            return sum();
        }

        /** Farms that are at a place in some row. */
        int farmsAt(int place) {
            int ahead = world.allowedFarms(heard[0]);
            for (int i = 1; i <= place; i++) {
                ahead = notTwice(ahead, world.allowedFarms(heard[i]));
            }
            int behind = world.allowedFarms(heard[length - 1]);
            for (int i = length - 2; i >= place; i--) {
                behind = notTwice(behind, world.allowedFarms(heard[i]));
            }
            return ahead & behind;
        }

        /** Those that may tell, if another one is among those beside them. */
        private static int notTwice(int beside, int may) {
            int answer = 0;
            for (int f = 0; f < MOST_FARMS; f++) {
                if ((may >> f & 1) != 0 && (beside & ~(1 << f)) != 0) {
                    answer |= 1 << f;
                }
            }
            return answer;
        }
    }
}
