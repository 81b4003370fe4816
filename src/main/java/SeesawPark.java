import java.util.Arrays;

/** A park of seesaws: the document's numbered promises stand at the public methods. */
public final class SeesawPark {
    public static final int BAD = -1, STATE = -2, FULL = -3, NONE = -9;
    public static final int NO = -1000000;

    private static final int MOST_PLANKS = 3;
    private static final int MOST_CHILDREN = 8;
    private static final int MOST_STONES = 5;
    private static final int MOST_HALF = 4;
    private static final int MOST_SEATS = 2 * MOST_HALF;
    private static final int MOST_MINUTES = 99;
    private static final int FAULT_BASE = -10;

    private static final int KIND_CHILD = 0;
    private static final int KIND_BOLD = 1;
    private static final int KIND_SHY = 2;
    private static final int KIND_ROCKER = 3;
    private static final int KIND_CLINGER = 4;
    private static final int KIND_HEAVY = 5;
    private static final int DEEPEST_KIND = 2;
    private static final int[] KIND_ABOVE = {-1, KIND_CHILD, KIND_CHILD, KIND_BOLD, KIND_SHY, KIND_CHILD};
    private static final int[] KIND_MARK = {1, 10, 100, 1000, 10000, 100000};

    private final Roster roster;
    private final Scene scene;
    private final Scene imageZero;
    private final Scene imageOne;
    private final Told told;
    private final Seating seating;
    private final Crowd crowd;
    private final Contest contest;
    private final Weighing weighing;
    private final Queue queue;
    private long marks;

    /** Promise 1. */
    public SeesawPark() {
        roster = new Roster();
        scene = new Scene(roster);
        imageZero = new Scene(roster);
        imageOne = new Scene(roster);
        told = new Told();
        seating = new Seating();
        crowd = new Crowd();
        contest = new Contest();
        weighing = new Weighing();
        queue = new Queue(roster);
        marks = 0;
    }

    // ---- the park

    /** Promise 2. */
    public int type(long v, int n) {
        if (n < 1 || n > 8) {
            return BAD;
        }
        if (told.length + n > Told.LIMIT) {
            return FULL;
        }
        for (int i = n - 1; i >= 0; i--) {
            told.append((int) ((v >>> (8 * i)) & 255));
        }
        return told.length;
    }

    /** Promise 3. */
    public int clear() {
        int had = told.length;
        told.length = 0;
        return had;
    }

    /** Promise 4. */
    public int park() {
        int items = told.readAll();
        if (items < 0) {
            return FAULT_BASE - told.tokenStart;
        }
        roster.copyFrom(told.draft);
        scene.reset();
        imageZero.filled = false;
        imageOne.filled = false;
        told.length = 0;
        return items;
    }

    /** Promise 5. */
    public int plank(int p, int what) {
        if (!roster.hasPlank(p)) {
            return NO;
        }
        switch (what) {
            case 0: return roster.half[p];
            case 1: return roster.slack[p];
            case 2: return scene.moment(p);
            case 3: return scene.tilt(p);
            case 4: return Integer.bitCount(scene.childrenOn(p));
            default: return NO;
        }
    }

    /** Promise 6. */
    public int child(int c, int what) {
        if (!roster.hasChild(c)) {
            return NO;
        }
        switch (what) {
            case 0: return roster.weight[c];
            case 1: return roster.wish[c];
            case 2: return scene.childStep[c] == 0 ? NONE : scene.childPlank[c];
            case 3: return scene.childStep[c];
            case 4: return scene.bumped[c];
            default: return NO;
        }
    }

    /** Promise 7. */
    public int stone(int s, int what) {
        if (!roster.hasStone(s)) {
            return NO;
        }
        switch (what) {
            case 0: return roster.stoneWeight[s];
            case 1: return scene.stoneStep[s] == 0 ? NONE : scene.stonePlank[s];
            case 2: return scene.stoneStep[s];
            default: return NO;
        }
    }

    // ---- who sits where

    /** Promise 8. */
    public int sits(int c, int p, int step) {
        if (!roster.hasChild(c) || !roster.hasSeat(p, step)) {
            return BAD;
        }
        if (scene.hasChildAt(p, step)) {
            return STATE;
        }
        int bumps = scene.childStep[c] == 0 ? 0 : scene.unseatChild(c);
        return bumps + scene.seatChild(c, p, step);
    }

    /** Promise 9. */
    public int leaves(int c) {
        if (!roster.hasChild(c)) {
            return BAD;
        }
        if (scene.childStep[c] == 0) {
            return STATE;
        }
        return scene.unseatChild(c);
    }

    /** Promise 10. */
    public int lay(int s, int p, int step) {
        if (!roster.hasStone(s) || !roster.hasSeat(p, step)) {
            return BAD;
        }
        if (scene.hasStoneAt(p, step)) {
            return STATE;
        }
        int bumps = scene.stoneStep[s] == 0 ? 0 : scene.liftStone(s);
        return bumps + scene.putStone(s, p, step);
    }

    /** Promise 11. */
    public int take(int s) {
        if (!roster.hasStone(s)) {
            return BAD;
        }
        if (scene.stoneStep[s] == 0) {
            return STATE;
        }
        return scene.liftStone(s);
    }

    // ---- what can be

    /** Promise 12. */
    public int ways(int p, int set, int c) {
        if (!roster.hasPlank(p) || c != -1 && !roster.hasChild(c)) {
            return NO;
        }
        int riders = set & roster.allChildren();
        askWays(p, riders);
        if (c == -1) {
            return seating.countWays();
        }
        if (!seating.findFirst()) {
            return NONE;
        }
        if ((riders & (1 << c)) == 0) {
            return 0;
        }
        return seating.chosenStep(Integer.bitCount(riders & ((1 << c) - 1)));
    }

    /** Promise 13. */
    public int most(int p, int what) {
        if (!roster.hasPlank(p) || !isZeroOrOne(what)) {
            return BAD;
        }
        crowd.spread(roster, p);
        int set = crowd.largestLevel(roster.children, scene.stoneMoment(p), roster.slack[p]);
        return countOrSet(set, what);
    }

    /** Promise 14. */
    public int moves(int p) {
        if (!roster.hasPlank(p)) {
            return BAD;
        }
        askWays(p, scene.childrenOn(p));
        int fewest = seating.fewestChanges();
        return fewest < 0 ? NONE : fewest;
    }

    /** Promise 15. */
    public int ballast(int p, int what) {
        if (!roster.hasPlank(p) || !isZeroOrOne(what)) {
            return BAD;
        }
        return countOrSet(leastBallast(p), what);
    }

    /** Promise 16. */
    public int game(int p, int what) {
        if (!roster.hasPlank(p) || !isZeroOrOne(what)) {
            return BAD;
        }
        int idle = scene.idleChildren();
        if (Integer.bitCount(idle) > Contest.MOST_IDLE || scene.tilt(p) != 0) {
            return STATE;
        }
        contest.begin(roster, scene, p);
        int move = contest.winningMove(idle, scene.moment(p));
        if (what == 0) {
            return move < 0 ? 0 : 1;
        }
        return move < 0 ? NONE : move;
    }

    // ---- strangers, rides

    /** Promise 17. */
    public int strangers(int n) {
        if (n < Weighing.FEWEST_STRANGERS || n > Weighing.MOST_STRANGERS) {
            return BAD;
        }
        int were = weighing.strangers;
        weighing.begin(n);
        return were;
    }

    /** Promise 18. */
    public int trial(int a, int b, int r) {
        if (!weighing.hasStranger(a) || !weighing.hasStranger(b) || a == b || r < -1 || r > 1) {
            return BAD;
        }
        if (weighing.trials >= Weighing.MOST_TRIALS) {
            return FULL;
        }
        weighing.addTrial(a, b, r);
        return weighing.trials;
    }

    /** Promise 19. */
    public int could(int a, int w) {
        if (a != -1 && !weighing.hasStranger(a) || w < 1 || w > Weighing.HEAVIEST) {
            return BAD;
        }
        return a == -1 ? weighing.fitting() : weighing.fittingWith(a, w);
    }

    /** Promise 20. */
    public int sure(int a) {
        if (!weighing.hasStranger(a)) {
            return BAD;
        }
        int only = weighing.onlyWeight(a);
        return only == 0 ? NONE : only;
    }

    /** Promise 21. */
    public int next(int what) {
        if (!isZeroOrOne(what)) {
            return BAD;
        }
        int pair = weighing.bestPair();
        return what == 0 ? pair : weighing.leftAtWorst(pair / 10, pair % 10);
    }

    /** Promise 22. */
    public int rides(int minutes, int c) {
        if (minutes < 0 || minutes > MOST_MINUTES || c != -1 && !roster.hasChild(c)) {
            return BAD;
        }
        queue.run(minutes);
        return c == -1 ? queue.waiting : queue.ridden[c];
    }

    /** Promise 23. */
    public int forever() {
        int lonely = 0;
        for (int c = 0; c < roster.children; c++) {
            if (!hasPartner(c)) {
                lonely |= 1 << c;
            }
        }
        return lonely;
    }

    // ---- kinds, images

    /** Promise 24. */
    public int rate(int kind, int c) {
        if (kind < KIND_CHILD || kind > KIND_HEAVY || !roster.hasChild(c)) {
            return NO;
        }
        return rateAs(kind, c, 0);
    }

    /** Promise 25. */
    public int keep(int image) {
        if (!isZeroOrOne(image)) {
            return BAD;
        }
        Scene kept = imageOf(image);
        kept.copyFrom(scene);
        kept.filled = true;
        return scene.seatedChildren();
    }

    /** Promise 26. */
    public int back(int image) {
        if (!isZeroOrOne(image)) {
            return BAD;
        }
        Scene kept = imageOf(image);
        if (!kept.filled) {
            return STATE;
        }
        scene.copyFrom(kept);
        return scene.seatedChildren();
    }

    /** Promise 27. */
    public int count(int what) {
        switch (what) {
            case 0: return roster.planks;
            case 1: return roster.children;
            case 2: return roster.stones;
            case 3: return weighing.trials;
            case 4: return weighing.strangers;
            case 5: return told.length;
            case 6: return scene.seatedChildren();
            default: return BAD;
        }
    }

    /** Promise 28. */
    public long trace() {
        return marks;
    }

    private static boolean isZeroOrOne(int n) {
        return n == 0 || n == 1;
    }

    /** The step of a seat, when a plank's seats are numbered from the left end. */
    private static int stepOfSeat(int seat, int half) {
        return seat < half ? seat - half : seat - half + 1;
    }

    private static int countOrSet(int set, int what) {
        if (set < 0) {
            return NONE;
        }
        return what == 0 ? Integer.bitCount(set) : set;
    }

    private Scene imageOf(int image) {
        return image == 0 ? imageZero : imageOne;
    }

    /** Sets the search up to seat just these children on a plank whose stones stay. */
    private void askWays(int p, int riders) {
        seating.begin(scene.stoneMoment(p), roster.slack[p]);
        int half = roster.half[p];
        for (int seat = 0; seat < 2 * half; seat++) {
            seating.addSeat(stepOfSeat(seat, half));
        }
        for (int c = 0; c < roster.children; c++) {
            if ((riders & (1 << c)) != 0) {
                seating.addBody(roster.weight[c], scene.childStep[c]);
            }
        }
    }

    /** The least of the smallest sets of idle stones that can make a plank level, or -1. */
    private int leastBallast(int p) {
        int idle = scene.idleStones();
        for (int size = 0; size <= roster.stones; size++) {
            for (int set = 0; set < 1 << roster.stones; set++) {
                if (Integer.bitCount(set) == size && (set & ~idle) == 0 && canBallast(p, set)) {
                    return set;
                }
            }
        }
        return -1;
    }

    private boolean canBallast(int p, int set) {
        seating.begin(scene.moment(p), roster.slack[p]);
        int half = roster.half[p];
        for (int seat = 0; seat < 2 * half; seat++) {
            int step = stepOfSeat(seat, half);
            if (!scene.hasStoneAt(p, step)) {
                seating.addSeat(step);
            }
        }
        for (int s = 0; s < roster.stones; s++) {
            if ((set & (1 << s)) != 0) {
                seating.addBody(roster.stoneWeight[s], 0);
            }
        }
        return seating.findFirst();
    }

    private boolean hasPartner(int c) {
        for (int p = 0; p < roster.planks; p++) {
            for (int other = 0; other < roster.children; other++) {
                if (other != c && roster.fits(p, c, other)) {
                    return true;
                }
            }
        }
        return false;
    }

    private int rateAs(int kind, int c, int depth) {
        if (depth > DEEPEST_KIND || kind < KIND_CHILD || kind > KIND_HEAVY) {
            return 0;
        }
        marks += KIND_MARK[kind];
        if (kind == KIND_CHILD) {
            return roster.weight[c];
        }
        int up = rateAs(KIND_ABOVE[kind], c, depth + 1);
        switch (kind) {
            case KIND_BOLD: return up + scene.bumped[c];
            case KIND_SHY: return up - scene.childStep[c];
            case KIND_ROCKER: return 2 * up;
            case KIND_CLINGER: return up + roster.wish[c];
            default: return up - c;
        }
    }

    /** What the text told: planks, children and stones, without where they are. */
    private static final class Roster {
        final int[] half = new int[MOST_PLANKS];
        final int[] slack = new int[MOST_PLANKS];
        final int[] weight = new int[MOST_CHILDREN];
        final int[] wish = new int[MOST_CHILDREN];
        final int[] stoneWeight = new int[MOST_STONES];
        int planks;
        int children;
        int stones;

        void forget() {
            planks = 0;
            children = 0;
            stones = 0;
        }

        void copyFrom(Roster other) {
            System.arraycopy(other.half, 0, half, 0, MOST_PLANKS);
            System.arraycopy(other.slack, 0, slack, 0, MOST_PLANKS);
            System.arraycopy(other.weight, 0, weight, 0, MOST_CHILDREN);
            System.arraycopy(other.wish, 0, wish, 0, MOST_CHILDREN);
            System.arraycopy(other.stoneWeight, 0, stoneWeight, 0, MOST_STONES);
            planks = other.planks;
            children = other.children;
            stones = other.stones;
        }

        boolean hasPlank(int p) {
            return p >= 0 && p < planks;
        }

        boolean hasChild(int c) {
            return c >= 0 && c < children;
        }

        boolean hasStone(int s) {
            return s >= 0 && s < stones;
        }

        boolean hasSeat(int p, int step) {
            return hasPlank(p) && step != 0 && step >= -half[p] && step <= half[p];
        }

        int allChildren() {
            return (1 << children) - 1;
        }

        boolean fits(int p, int c, int other) {
            return Math.abs(weight[c] - weight[other]) <= slack[p];
        }
    }

    /** Who and what is where, and who was bumped how often; a step of 0 is nowhere. */
    private static final class Scene {
        private final Roster roster;
        final int[] childPlank = new int[MOST_CHILDREN];
        final int[] childStep = new int[MOST_CHILDREN];
        final int[] bumped = new int[MOST_CHILDREN];
        final int[] stonePlank = new int[MOST_STONES];
        final int[] stoneStep = new int[MOST_STONES];
        /** Whether an image was kept in it. */
        boolean filled;

        Scene(Roster ofPark) {
            roster = ofPark;
        }

        void reset() {
            for (int c = 0; c < MOST_CHILDREN; c++) {
                childPlank[c] = 0;
                childStep[c] = 0;
                bumped[c] = 0;
            }
            for (int s = 0; s < MOST_STONES; s++) {
                stonePlank[s] = 0;
                stoneStep[s] = 0;
            }
        }

        void copyFrom(Scene other) {
            System.arraycopy(other.childPlank, 0, childPlank, 0, MOST_CHILDREN);
            System.arraycopy(other.childStep, 0, childStep, 0, MOST_CHILDREN);
            System.arraycopy(other.bumped, 0, bumped, 0, MOST_CHILDREN);
            System.arraycopy(other.stonePlank, 0, stonePlank, 0, MOST_STONES);
            System.arraycopy(other.stoneStep, 0, stoneStep, 0, MOST_STONES);
        }

        boolean hasChildAt(int p, int step) {
            for (int c = 0; c < roster.children; c++) {
                if (childStep[c] == step && childPlank[c] == p) {
                    return true;
                }
            }
            return false;
        }

        boolean hasStoneAt(int p, int step) {
            for (int s = 0; s < roster.stones; s++) {
                if (stoneStep[s] == step && stonePlank[s] == p) {
                    return true;
                }
            }
            return false;
        }

        int childrenOn(int p) {
            int set = 0;
            for (int c = 0; c < roster.children; c++) {
                if (childStep[c] != 0 && childPlank[c] == p) {
                    set |= 1 << c;
                }
            }
            return set;
        }

        int idleChildren() {
            int set = 0;
            for (int c = 0; c < roster.children; c++) {
                if (childStep[c] == 0) {
                    set |= 1 << c;
                }
            }
            return set;
        }

        int idleStones() {
            int set = 0;
            for (int s = 0; s < roster.stones; s++) {
                if (stoneStep[s] == 0) {
                    set |= 1 << s;
                }
            }
            return set;
        }

        int seatedChildren() {
            return roster.children - Integer.bitCount(idleChildren());
        }

        int stoneMoment(int p) {
            int sum = 0;
            for (int s = 0; s < roster.stones; s++) {
                if (stonePlank[s] == p) {
                    sum += roster.stoneWeight[s] * stoneStep[s];
                }
            }
            return sum;
        }

        int moment(int p) {
            int sum = stoneMoment(p);
            for (int c = 0; c < roster.children; c++) {
                if (childPlank[c] == p) {
                    sum += roster.weight[c] * childStep[c];
                }
            }
            return sum;
        }

        int tilt(int p) {
            int turn = moment(p);
            if (Math.abs(turn) <= roster.slack[p]) {
                return 0;
            }
            return turn < 0 ? -1 : 1;
        }

        int seatChild(int c, int p, int step) {
            int before = tilt(p);
            childPlank[c] = p;
            childStep[c] = step;
            return settle(p, before);
        }

        int unseatChild(int c) {
            int p = childPlank[c];
            int before = tilt(p);
            childStep[c] = 0;
            return settle(p, before);
        }

        int putStone(int s, int p, int step) {
            int before = tilt(p);
            stonePlank[s] = p;
            stoneStep[s] = step;
            return settle(p, before);
        }

        int liftStone(int s) {
            int p = stonePlank[s];
            int before = tilt(p);
            stoneStep[s] = 0;
            return settle(p, before);
        }

        /** Bumps the children of the side that came down, if one did. */
        private int settle(int p, int before) {
            int down = tilt(p);
            if (down == 0 || down == before) {
                return 0;
            }
            int bumps = 0;
            for (int c = 0; c < roster.children; c++) {
                if (childPlank[c] == p && Integer.signum(childStep[c]) == down) {
                    bumped[c]++;
                    bumps++;
                }
            }
            return bumps;
        }
    }

    /** The text, and its reading, token by token, into a draft of the park. */
    private static final class Told {
        static final int LIMIT = 300;

        private static final int END = 0;
        private static final int PLANK = 1;
        private static final int CHILD = 2;
        private static final int STONE = 3;
        private static final int NUMBER = 4;
        private static final int SEMICOLON = 5;
        private static final int WRONG = 6;

        final Roster draft = new Roster();
        private final int[] bytes = new int[LIMIT];
        int length;
        /** Where the token begins that was read last: the fault, if reading stopped at it. */
        int tokenStart;
        private int place;
        private int token;
        private int value;

        void append(int b) {
            if (length < LIMIT) {
                bytes[length] = b;
                length++;
            }
        }

        /** How many items there are, or -1: the token that was read last can't stand there. */
        int readAll() {
            draft.forget();
            place = 0;
            for (int items = 0; items <= LIMIT; items++) {
                readToken();
                if (token == END) {
                    return items;
                }
                boolean right = token == PLANK ? readPlank() : token == CHILD ? readChild() : token == STONE && readStone();
                if (!right) {
                    return -1;
                }
            }
            return -1;
        }

        private boolean readPlank() {
            int p = draft.planks;
            if (p >= MOST_PLANKS || !readNumber(1, MOST_HALF)) {
                return false;
            }
            draft.half[p] = value;
            if (!readNumber(0, 20)) {
                return false;
            }
            draft.slack[p] = value;
            draft.planks++;
            return readSemicolon();
        }

        private boolean readChild() {
            int c = draft.children;
            if (c >= MOST_CHILDREN || !readNumber(1, 60)) {
                return false;
            }
            draft.weight[c] = value;
            if (!readNumber(1, 30)) {
                return false;
            }
            draft.wish[c] = value;
            draft.children++;
            return readSemicolon();
        }

        private boolean readStone() {
            int s = draft.stones;
            if (s >= MOST_STONES || !readNumber(1, 20)) {
                return false;
            }
            draft.stoneWeight[s] = value;
            draft.stones++;
            return readSemicolon();
        }

        private boolean readNumber(int least, int greatest) {
            readToken();
            return token == NUMBER && value >= least && value <= greatest;
        }

        private boolean readSemicolon() {
            readToken();
            return token == SEMICOLON;
        }

        private void readToken() {
            while (place < length && bytes[place] == ' ') {
                place++;
            }
            tokenStart = place;
            if (place >= length) {
                token = END;
                return;
            }
            int b = bytes[place];
            if (isLetter(b)) {
                readWord();
            } else if (isDigit(b)) {
                readDigits();
            } else {
                place++;
                token = b == ';' ? SEMICOLON : WRONG;
            }
        }

        private void readWord() {
            while (place < length && isLetter(bytes[place])) {
                place++;
            }
            if (spells("plank")) {
                token = PLANK;
            } else if (spells("child")) {
                token = CHILD;
            } else {
                token = spells("stone") ? STONE : WRONG;
            }
        }

        private boolean spells(String word) {
            if (place - tokenStart != word.length()) {
                return false;
            }
            for (int i = 0; i < word.length(); i++) {
                if (bytes[tokenStart + i] != word.charAt(i)) {
                    return false;
                }
            }
            return true;
        }

        private void readDigits() {
            value = 0;
            while (place < length && isDigit(bytes[place])) {
                // Held at 100, which is too much already, so that a long number can't wrap around.
                value = Math.min(100, 10 * value + bytes[place] - '0');
                place++;
            }
            boolean zeroAhead = bytes[tokenStart] == '0' && place - tokenStart > 1;
            token = zeroAhead || value > 99 ? WRONG : NUMBER;
        }

        private static boolean isLetter(int b) {
            return b >= 'a' && b <= 'z';
        }

        private static boolean isDigit(int b) {
            return b >= '0' && b <= '9';
        }
    }

    /** Seats a few bodies, each at a step of its own, so that the plank is level. */
    private static final class Seating {
        private final int[] steps = new int[MOST_SEATS];
        private final int[] weights = new int[MOST_CHILDREN];
        private final int[] now = new int[MOST_CHILDREN];
        private final int[] chosen = new int[MOST_CHILDREN];
        /** How far the bodies from this one on can turn the plank at most. */
        private final int[] reach = new int[MOST_CHILDREN + 1];
        private int seats;
        private int bodies;
        private int startMoment;
        private int slack;
        private int fewest;

        void begin(int moment, int slackOfPlank) {
            seats = 0;
            bodies = 0;
            startMoment = moment;
            slack = slackOfPlank;
        }

        void addSeat(int step) {
            if (seats < MOST_SEATS) {
                steps[seats] = step;
                seats++;
            }
        }

        void addBody(int weight, int stepNow) {
            if (bodies < MOST_CHILDREN) {
                weights[bodies] = weight;
                now[bodies] = stepNow;
                bodies++;
            }
        }

        int chosenStep(int body) {
            return body >= 0 && body < bodies ? chosen[body] : 0;
        }

        int countWays() {
            measureReach();
            return countFrom(0, 0, startMoment);
        }

        boolean findFirst() {
            measureReach();
            return findFrom(0, 0, startMoment);
        }

        /** The fewest bodies that aren't at the step they have now, or -1: it can't be level. */
        int fewestChanges() {
            measureReach();
            fewest = bodies + 1;
            changeFrom(0, 0, startMoment, 0);
            return fewest > bodies ? -1 : fewest;
        }

        private void measureReach() {
            reach[bodies] = 0;
            for (int body = bodies - 1; body >= 0; body--) {
                reach[body] = reach[body + 1] + MOST_HALF * weights[body];
            }
        }

        private boolean isHopeless(int body, int moment) {
            return Math.abs(moment) > slack + reach[body];
        }

        private int countFrom(int body, int taken, int moment) {
            if (isHopeless(body, moment)) {
                return 0;
            }
            if (body >= bodies) {
                return 1;
            }
            int found = 0;
            for (int seat = 0; seat < seats; seat++) {
                if ((taken & (1 << seat)) == 0) {
                    found += countFrom(body + 1, taken | (1 << seat), moment + weights[body] * steps[seat]);
                }
            }
            return found;
        }

        private boolean findFrom(int body, int taken, int moment) {
            if (isHopeless(body, moment)) {
                return false;
            }
            if (body >= bodies) {
                return true;
            }
            for (int seat = 0; seat < seats; seat++) {
                if ((taken & (1 << seat)) == 0) {
                    chosen[body] = steps[seat];
                    if (findFrom(body + 1, taken | (1 << seat), moment + weights[body] * steps[seat])) {
                        return true;
                    }
                }
            }
            return false;
        }

        private void changeFrom(int body, int taken, int moment, int changed) {
            if (changed >= fewest || isHopeless(body, moment)) {
                return;
            }
            if (body >= bodies) {
                fewest = changed;
                return;
            }
            for (int seat = 0; seat < seats; seat++) {
                if ((taken & (1 << seat)) == 0) {
                    int more = steps[seat] == now[body] ? 0 : 1;
                    changeFrom(body + 1, taken | (1 << seat), moment + weights[body] * steps[seat], changed + more);
                }
            }
        }
    }

    /**
     * Which moments each set of children can make on a plank, as rows of bits: seat by seat,
     * since to try every way for every set would take a million and a half of them.
     */
    private static final class Crowd {
        /** Children turn a plank by 60 * (4 + 3 + 2 + 1) to either side at most. */
        private static final int FARTHEST = 600;
        private static final int WORDS = (2 * FARTHEST + 64) / 64;
        private final long[] rows = new long[(1 << MOST_CHILDREN) * WORDS];

        void spread(Roster roster, int p) {
            int sets = 1 << roster.children;
            for (int i = 0; i < sets * WORDS; i++) {
                rows[i] = 0;
            }
            rows[FARTHEST >> 6] = 1L << (FARTHEST & 63);
            int half = roster.half[p];
            for (int seat = 0; seat < 2 * half; seat++) {
                int step = stepOfSeat(seat, half);
                // Downwards, so that the smaller sets don't have this seat's child yet.
                for (int set = sets - 1; set > 0; set--) {
                    addSeatOf(roster, set, step);
                }
            }
        }

        private void addSeatOf(Roster roster, int set, int step) {
            for (int c = 0; c < roster.children; c++) {
                if ((set & (1 << c)) != 0) {
                    mergeShifted(set, set ^ (1 << c), roster.weight[c] * step);
                }
            }
        }

        private void mergeShifted(int to, int from, int by) {
            int words = by >> 6;
            int bits = by & 63;
            for (int i = 0; i < WORDS; i++) {
                long moved = wordAt(from, i - words) << bits;
                if (bits != 0) {
                    moved |= wordAt(from, i - words - 1) >>> (64 - bits);
                }
                rows[to * WORDS + i] |= moved;
            }
        }

        private long wordAt(int set, int word) {
            return word >= 0 && word < WORDS ? rows[set * WORDS + word] : 0;
        }

        /** The least of the largest sets that have a way, or -1. */
        int largestLevel(int children, int stoneMoment, int slack) {
            for (int size = children; size >= 0; size--) {
                for (int set = 0; set < 1 << children; set++) {
                    if (Integer.bitCount(set) == size && canLevel(set, stoneMoment, slack)) {
                        return set;
                    }
                }
            }
            return -1;
        }

        private boolean canLevel(int set, int stoneMoment, int slack) {
            for (int moment = -stoneMoment - slack; moment <= slack - stoneMoment; moment++) {
                int bit = moment + FARTHEST;
                if (((wordAt(set, bit >> 6) >>> (bit & 63)) & 1) != 0) {
                    return true;
                }
            }
            return false;
        }
    }

    /** The game of two who seat idle children by turns on a plank that must stay level. */
    private static final class Contest {
        static final int MOST_IDLE = 4;
        private static final int LOST = -1;

        private final int[] weights = new int[MOST_CHILDREN];
        private final int[] steps = new int[MOST_SEATS];
        private int children;
        private int seats;
        private int slack;

        void begin(Roster roster, Scene scene, int p) {
            children = roster.children;
            System.arraycopy(roster.weight, 0, weights, 0, MOST_CHILDREN);
            slack = roster.slack[p];
            seats = 0;
            int half = roster.half[p];
            for (int seat = 0; seat < 2 * half; seat++) {
                int step = stepOfSeat(seat, half);
                if (!scene.hasChildAt(p, step)) {
                    steps[seats] = step;
                    seats++;
                }
            }
        }

        /** The first winning move as the document codes it, or -1. */
        int winningMove(int idle, int moment) {
            return moveFrom(idle, 0, moment, 0);
        }

        private int moveFrom(int idle, int taken, int moment, int depth) {
            if (depth > MOST_IDLE) {
                return LOST;
            }
            for (int c = 0; c < children; c++) {
                if ((idle & (1 << c)) == 0) {
                    continue;
                }
                for (int seat = 0; seat < seats; seat++) {
                    int then = moment + weights[c] * steps[seat];
                    if ((taken & (1 << seat)) == 0 && Math.abs(then) <= slack
                            && moveFrom(idle ^ (1 << c), taken | (1 << seat), then, depth + 1) == LOST) {
                        return 100 * c + steps[seat] + 4;
                    }
                }
            }
            return LOST;
        }
    }

    /** Strangers of unknown weights, the trials, and a survey of all weights that fit these. */
    private static final class Weighing {
        static final int FEWEST_STRANGERS = 2;
        static final int MOST_STRANGERS = 5;
        static final int MOST_TRIALS = 12;
        static final int HEAVIEST = 6;

        private static final int PER_PAIR = 3;

        private final int[] first = new int[MOST_TRIALS];
        private final int[] second = new int[MOST_TRIALS];
        private final int[] outcome = new int[MOST_TRIALS];
        private final int[] guess = new int[MOST_STRANGERS];
        private final int[] byWeight = new int[MOST_STRANGERS * (HEAVIEST + 1)];
        private final int[] byOutcome = new int[MOST_STRANGERS * MOST_STRANGERS * PER_PAIR];
        int strangers;
        int trials;
        private int total;
        private boolean surveyed;

        Weighing() {
            strangers = FEWEST_STRANGERS;
        }

        void begin(int n) {
            strangers = n;
            trials = 0;
            surveyed = false;
        }

        boolean hasStranger(int a) {
            return a >= 0 && a < strangers;
        }

        void addTrial(int a, int b, int r) {
            if (trials < MOST_TRIALS) {
                first[trials] = a;
                second[trials] = b;
                outcome[trials] = r;
                trials++;
                surveyed = false;
            }
        }

        int fitting() {
            survey();
            return total;
        }

        int fittingWith(int a, int w) {
            survey();
            return byWeight[a * (HEAVIEST + 1) + w];
        }

        /** The only weight that one can have, or 0. */
        int onlyWeight(int a) {
            int only = 0;
            for (int w = 1; w <= HEAVIEST; w++) {
                if (fittingWith(a, w) > 0) {
                    if (only != 0) {
                        return 0;
                    }
                    only = w;
                }
            }
            return only;
        }

        /** The first pair whose trial leaves the fewest at worst, as 10 A + B. */
        int bestPair() {
            int best = 1;
            for (int a = 0; a < strangers; a++) {
                for (int b = a + 1; b < strangers; b++) {
                    if (leftAtWorst(a, b) < leftAtWorst(best / 10, best % 10)) {
                        best = 10 * a + b;
                    }
                }
            }
            return best;
        }

        int leftAtWorst(int a, int b) {
            survey();
            int cell = outcomeCell(a, b, 0);
            return Math.max(byOutcome[cell], Math.max(byOutcome[cell - 1], byOutcome[cell + 1]));
        }

        private static int outcomeCell(int a, int b, int r) {
            return (a * MOST_STRANGERS + b) * PER_PAIR + r + 1;
        }

        private void survey() {
            if (surveyed) {
                return;
            }
            surveyed = true;
            total = 0;
            Arrays.fill(byWeight, 0);
            Arrays.fill(byOutcome, 0);
            guessFrom(0);
        }

        private void guessFrom(int a) {
            if (a >= strangers) {
                if (guessFits()) {
                    tally();
                }
                return;
            }
            for (int w = 1; w <= HEAVIEST; w++) {
                guess[a] = w;
                guessFrom(a + 1);
            }
        }

        private boolean guessFits() {
            for (int t = 0; t < trials; t++) {
                if (Integer.signum(guess[second[t]] - guess[first[t]]) != outcome[t]) {
                    return false;
                }
            }
            return true;
        }

        private void tally() {
            total++;
            for (int a = 0; a < strangers; a++) {
                byWeight[a * (HEAVIEST + 1) + guess[a]]++;
                for (int b = a + 1; b < strangers; b++) {
                    byOutcome[outcomeCell(a, b, Integer.signum(guess[b] - guess[a]))]++;
                }
            }
        }
    }

    /** Rides by minutes, from a row in which all children wait at first. */
    private static final class Queue {
        private static final int NOBODY = -1;

        private final Roster roster;
        final int[] ridden = new int[MOST_CHILDREN];
        private final int[] row = new int[MOST_CHILDREN];
        private final int[] rider = new int[MOST_PLANKS];
        private final int[] partner = new int[MOST_PLANKS];
        int waiting;

        Queue(Roster ofPark) {
            roster = ofPark;
        }

        void run(int minutes) {
            waiting = 0;
            for (int c = 0; c < roster.children; c++) {
                ridden[c] = 0;
                joinRow(c);
            }
            for (int p = 0; p < roster.planks; p++) {
                rider[p] = NOBODY;
                partner[p] = NOBODY;
            }
            for (int minute = 0; minute < minutes; minute++) {
                for (int p = 0; p < roster.planks; p++) {
                    letOff(p);
                    letOn(p);
                }
                rideOn();
            }
        }

        private void letOff(int p) {
            int one = rider[p];
            int two = partner[p];
            if (one == NOBODY || two == NOBODY || wantsMore(one) && wantsMore(two)) {
                return;
            }
            rider[p] = NOBODY;
            partner[p] = NOBODY;
            if (wantsMore(one)) {
                joinRow(one);
            }
            if (wantsMore(two)) {
                joinRow(two);
            }
        }

        private boolean wantsMore(int c) {
            return ridden[c] < roster.wish[c];
        }

        private void letOn(int p) {
            if (rider[p] != NOBODY) {
                return;
            }
            for (int i = 0; i < waiting; i++) {
                for (int j = i + 1; j < waiting; j++) {
                    if (roster.fits(p, row[i], row[j])) {
                        rider[p] = row[i];
                        partner[p] = row[j];
                        leaveRow(j);
                        leaveRow(i);
                        return;
                    }
                }
            }
        }

        private void rideOn() {
            for (int p = 0; p < roster.planks; p++) {
                if (rider[p] != NOBODY && partner[p] != NOBODY) {
                    ridden[rider[p]]++;
                    ridden[partner[p]]++;
                }
            }
        }

        private void joinRow(int c) {
            if (waiting < MOST_CHILDREN) {
                row[waiting] = c;
                waiting++;
            }
        }

        private void leaveRow(int at) {
            waiting--;
            for (int i = at; i < waiting; i++) {
                row[i] = row[i + 1];
            }
        }
    }
}
