/**
 * A fair at which only questions are sold: CASES with WEIGHTS, QUESTIONS of six KINDS with PENCE, what
 * was ASKED, and what the QUESTIONS would cut away of the CASES that are LEFT.
 *
 * Sets of CASES and sets of QUESTIONS are bits of an int throughout.
 */
public final class QuestionFair {

    public static final int NONE = -1, BAD = -2, NO = -3, FULL = -4;

    private static final int MOST_CASES = 16;
    private static final int FIRST_CASES = 8;
    private static final int MOST_WEIGHT = 9;
    private static final int MOST_QUESTIONS = 7;
    private static final int MOST_SETS = 128;
    private static final int LAST_KIND = 5;
    private static final int MOST_MARK = 15;
    private static final int MOST_PENCE = 99;
    private static final int ANSWERS = 16;
    private static final int MOST_ASKED = 8;
    private static final int MOST_UNDONE = 8;
    private static final int MOST_TEXT = 150;
    private static final int MOST_BYTE = 127;
    private static final int MOST_FIGURES = 7;
    private static final int HIGHEST_UNIT = 1000000;
    private static final int GREATEST_ROW = 7777777;
    private static final int IMAGES = 2;
    private static final int REASONS = 3;
    private static final int COUNTS = 6;
    private static final int MOST_SEED = 999999;
    private static final int MOST_STALLS = 60;
    private static final int MOST_DRAWN = 12;
    private static final int NOT_SO_MANY = -5;
    private static final int BAD_AS_TEN = -10;
    private static final int FAULT_BASE = -10;
    private static final int DIGEST_SEED = 1091;

    private final Stand stand = new Stand();
    private final Stand firstImage = new Stand();
    private final Stand secondImage = new Stand();
    private final boolean[] kept = new boolean[IMAGES];
    private final Reader reader = new Reader();
    private final Fraction fraction = new Fraction();
    private final int[] refused = new int[REASONS];
    private final Purchase purchase = new Purchase();
    private final Purchase without = new Purchase();
    private final Plan plan = new Plan();
    private final Rows rows = new Rows();
    private final Draw draw = new Draw();

    public QuestionFair() {
    }

    // ---- a fair

    public int fair(int n) {
        if (!within(n, 1, MOST_CASES)) {
            return refuse(BAD, BAD);
        }
        int before = stand.questions;
        stand.begin(n);
        return before;
    }

    public int weigh(int x, int weight) {
        if (!isCase(x) || !within(weight, 1, MOST_WEIGHT)) {
            return refuse(BAD, BAD);
        }
        int before = stand.weights[x];
        stand.weights[x] = weight;
        return before;
    }

    public int question(int kind, int a, int pence) {
        if (!within(kind, 0, LAST_KIND) || !within(a, 0, MOST_MARK) || !within(pence, 0, MOST_PENCE)) {
            return refuse(BAD, BAD);
        }
        if (stand.questions >= MOST_QUESTIONS) {
            return refuse(FULL, FULL);
        }
        stand.addQuestion(kind, a, pence);
        return stand.questions - 1;
    }

    public int price(int q, int pence) {
        if (!isQuestion(q) || !within(pence, 0, MOST_PENCE)) {
            return refuse(BAD, BAD);
        }
        int before = stand.pence[q];
        stand.pence[q] = pence;
        return before;
    }

    public int type(int c) {
        if (!within(c, 0, MOST_BYTE)) {
            return refuse(BAD, BAD);
        }
        if (reader.length >= MOST_TEXT) {
            return refuse(FULL, FULL);
        }
        reader.addByte(c);
        return reader.length;
    }

    public int clear() {
        int before = reader.length;
        reader.length = 0;
        return before;
    }

    public int read() {
        int items = reader.readItems();
        if (items == NONE) {
            return FAULT_BASE - reader.start;
        }
        stand.takeFrom(reader.draft);
        return items;
    }

    // ---- questions

    public int ask(int q, int answer) {
        if (!isQuestion(q) || !within(answer, 0, ANSWERS - 1)) {
            return refuse(BAD, BAD);
        }
        if (stand.asked >= MOST_ASKED) {
            return refuse(FULL, FULL);
        }
        stand.addAsked(q, answer);
        return stand.fitting(0);
    }

    public int forget() {
        if (stand.asked < 1) {
            return refuse(NO, NO);
        }
        stand.dropFirstAsked();
        return stand.asked;
    }

    public int undo() {
        if (stand.undoable < 1) {
            return refuse(NO, NO);
        }
        stand.stepBack();
        return stand.asked;
    }

    public int of(int q, int what) {
        if (!isQuestion(q) || !within(what, 0, 2)) {
            return refuse(BAD, BAD);
        }
        switch (what) {
            case 0:
                return stand.kinds[q];
            case 1:
                return stand.marks[q];
            default:
                return stand.pence[q];
        }
    }

    public int answer(int q, int x) {
        if (!isQuestion(q) || !isCase(x)) {
            return refuse(BAD, BAD);
        }
        return stand.answerIn(q, x);
    }

    public int left() {
        return stand.fitting(0);
    }

    // ---- what it cuts

    public int cuts(int q, int what) {
        if (!isQuestion(q) || !within(what, 0, 2)) {
            return refuse(BAD, BAD);
        }
        int left = stand.fitting(0);
        switch (what) {
            case 0:
                return stand.greatestPart(q, left);
            case 1:
                return stand.howManyParts(q, left);
            default:
                return stand.lightestPart(q, left);
        }
    }

    public int empty() {
        int left = stand.fitting(0);
        int bits = 0;
        for (int q = 0; q < stand.questions; q++) {
            if (stand.howManyParts(q, left) < 2) {
                bits |= 1 << q;
            }
        }
        return bits;
    }

    public int same(int k) {
        if (k < NONE) {
            return refuse(BAD, BAD_AS_TEN);
        }
        int left = stand.fitting(0);
        int pairs = 0;
        for (int i = 0; i < stand.questions; i++) {
            for (int j = i + 1; j < stand.questions; j++) {
                if (stand.partAlike(i, j, left)) {
                    if (pairs == k) {
                        return 10 * i + j;
                    }
                    pairs++;
                }
            }
        }
        return k == NONE ? pairs : NOT_SO_MANY;
    }

    public int best() {
        int left = stand.fitting(0);
        if (left == 0) {
            return NONE;
        }
        int found = NONE;
        int fewest = 0;
        for (int q = 0; q < stand.questions; q++) {
            int greatest = stand.greatestPart(q, left);
            if (found == NONE || greatest < fewest
                    || greatest == fewest && stand.pence[q] < stand.pence[found]) {
                found = q;
                fewest = greatest;
            }
        }
        return found;
    }

    public int atOnce(int what) {
        if (!within(what, 0, 1)) {
            return refuse(BAD, BAD);
        }
        purchase.seek(stand, stand.fitting(0), 0, 0);
        return what == 0 ? purchase.set : purchase.pence;
    }

    public int oneByOne(int what) {
        if (!within(what, 0, 2)) {
            return refuse(BAD, BAD);
        }
        plan.lay(stand, stand.fitting(0));
        switch (what) {
            case 0:
                return plan.pence;
            case 1:
                return plan.first;
            default:
                return plan.howMany;
        }
    }

    public int oneWrong() {
        return stand.fitting(1);
    }

    public int knows(int x, int s, int what) {
        if (!isCase(x) || !within(s, 0, stand.allCases()) || !within(what, 0, 1) || (s >> x & 1) == 0) {
            return refuse(BAD, BAD_AS_TEN);
        }
        int sets = 0;
        int inAll = stand.allSets() - 1;
        for (int set = 0; set < stand.allSets(); set++) {
            if (stand.behind(set, x, stand.allCases()) == s) {
                sets++;
                inAll &= set;
            }
        }
        if (what == 0) {
            return sets;
        }
        return sets == 0 ? NONE : inAll;
    }

    public int parted(int q) {
        if (q != NONE && !isQuestion(q)) {
            return refuse(BAD, BAD_AS_TEN);
        }
        int set = q == NONE ? stand.allSets() - 1 : 1 << q;
        return stand.pairsParted(set, stand.fitting(0));
    }

    // ---- rows, stalls

    public int row(int row) {
        if (!isRow(row)) {
            return refuse(BAD, BAD);
        }
        int left = stand.fitting(0);
        if (left == 0) {
            return refuse(NO, NO);
        }
        fraction.become(rows.weighedPence(stand, left, row), stand.weightOf(left));
        return 1;
    }

    public int bestRow() {
        int left = stand.fitting(0);
        if (left == 0) {
            return refuse(NO, NO);
        }
        int found = rows.leastRow(stand, left);
        fraction.become(rows.least[0], stand.weightOf(left));
        return found;
    }

    public int haggle(int q) {
        if (!isQuestion(q)) {
            return refuse(BAD, BAD);
        }
        int left = stand.fitting(0);
        purchase.seek(stand, left, 1 << q, 0);
        without.seek(stand, left, 0, 1 << q);
        if (purchase.set == NONE) {
            return NONE;
        }
        if (without.set == NONE) {
            return MOST_PENCE;
        }
        int others = purchase.pence - stand.pence[q];
        int most = without.pence - others;
        if (!purchase.winsWhenPenceAreLike(without)) {
            most--;
        }
        return most < 0 ? NONE : Math.min(most, MOST_PENCE);
    }

    public int stalls(int seed, int m) {
        if (!within(seed, 0, MOST_SEED) || !within(m, 0, MOST_STALLS)) {
            return refuse(BAD, BAD);
        }
        int left = stand.fitting(0);
        if (left == 0 || stand.questions < 1) {
            return refuse(NO, NO);
        }
        draw.x = seed;
        int paid = 0;
        for (int time = 0; time < m; time++) {
            paid += draw.oneStall(stand, left);
        }
        return paid;
    }

    // ---- what there is

    public long part(int what) {
        if (!within(what, 0, 1)) {
            return refuse(BAD, BAD);
        }
        return what == 0 ? fraction.above : fraction.below;
    }

    public int image(int i) {
        if (!within(i, 0, IMAGES - 1)) {
            return refuse(BAD, BAD);
        }
        imageAt(i).takeFrom(stand);
        kept[i] = true;
        return 1;
    }

    public int from(int i) {
        if (!within(i, 0, IMAGES - 1)) {
            return refuse(BAD, BAD);
        }
        if (!kept[i]) {
            return refuse(NO, NO);
        }
        stand.takeFrom(imageAt(i));
        return 1;
    }

    public int status(int what) {
        if (!within(what, 0, REASONS - 1)) {
            return refuse(BAD, NONE);
        }
        return refused[what];
    }

    public int count(int what) {
        if (!within(what, 0, COUNTS - 1)) {
            return refuse(BAD, BAD);
        }
        return howMany(what);
    }

    public long digest() {
        long h = DIGEST_SEED;
        for (int what = 0; what < COUNTS; what++) {
            h = 31 * h + howMany(what);
        }
        h = stand.mixInto(h);
        h = 31 * h + fraction.above;
        return 31 * h + fraction.below;
    }

    private int howMany(int what) {
        switch (what) {
            case 0:
                return stand.cases;
            case 1:
                return stand.questions;
            case 2:
                return stand.asked;
            case 3:
                return Integer.bitCount(stand.fitting(0));
            case 4:
                return stand.undoable;
            default:
                return reader.length;
        }
    }

    /** Counts a refusal under its reason, and hands back the number that the call answers for it. */
    private int refuse(int reason, int reply) {
        int place = BAD - reason;
        if (within(place, 0, REASONS - 1)) {
            refused[place]++;
        }
        return reply;
    }

    private Stand imageAt(int i) {
        return i == 0 ? firstImage : secondImage;
    }

    private boolean isCase(int x) {
        return within(x, 0, stand.cases - 1);
    }

    private boolean isQuestion(int q) {
        return within(q, 0, stand.questions - 1);
    }

    private boolean isRow(int row) {
        if (!within(row, 0, GREATEST_ROW)) {
            return false;
        }
        int rest = row;
        for (int figures = 0; figures < MOST_FIGURES && rest > 0; figures++) {
            if (!isQuestion(rest % 10 - 1)) {
                return false;
            }
            rest /= 10;
        }
        return true;
    }

    private static boolean within(int number, int low, int high) {
        return low <= number && number <= high;
    }

    private static int answerOf(int kind, int a, int x) {
        int whether = x >= a ? 1 : 0;
        int denied = 1 - whether;
        int leftOver = x % (Math.floorMod(a, 4) + 2);
        switch (kind) {
            case 0:
                return whether;
            case 1:
                return denied;
            case 2:
                return leftOver;
            case 3:
                return leftOver / 2;
            case 4:
                return leftOver + 5 * whether;
            default:
                return x == a ? 2 : denied;
        }
    }

    /** All that IMAGES keep: CASES, QUESTIONS, ASKED and what may be undone. */
    private static final class Stand {
        int cases;
        int questions;
        int asked;
        int undoable;
        final int[] weights = new int[MOST_CASES];
        final int[] kinds = new int[MOST_QUESTIONS];
        final int[] marks = new int[MOST_QUESTIONS];
        final int[] pence = new int[MOST_QUESTIONS];
        // At q * MOST_CASES + x: the CASES that answer q as x does, so that parting is a mask.
        final int[] alike = new int[MOST_QUESTIONS * MOST_CASES];
        // Each q * ANSWERS + its ANSWER.
        final int[] told = new int[MOST_ASKED];
        // What undoes a step: NONE takes the last ASKED away, another is put back as the first one.
        final int[] trail = new int[MOST_UNDONE];

        Stand() {
            begin(FIRST_CASES);
        }

        void begin(int n) {
            cases = n;
            questions = 0;
            asked = 0;
            undoable = 0;
            for (int x = 0; x < MOST_CASES; x++) {
                weights[x] = 1;
            }
        }

        void takeFrom(Stand other) {
            cases = other.cases;
            questions = other.questions;
            asked = other.asked;
            undoable = other.undoable;
            System.arraycopy(other.weights, 0, weights, 0, MOST_CASES);
            System.arraycopy(other.kinds, 0, kinds, 0, MOST_QUESTIONS);
            System.arraycopy(other.marks, 0, marks, 0, MOST_QUESTIONS);
            System.arraycopy(other.pence, 0, pence, 0, MOST_QUESTIONS);
            System.arraycopy(other.alike, 0, alike, 0, MOST_QUESTIONS * MOST_CASES);
            System.arraycopy(other.told, 0, told, 0, MOST_ASKED);
            System.arraycopy(other.trail, 0, trail, 0, MOST_UNDONE);
        }

        void addQuestion(int kind, int a, int itsPence) {
            if (questions >= MOST_QUESTIONS) {
                return;
            }
            kinds[questions] = kind;
            marks[questions] = a;
            pence[questions] = itsPence;
            for (int x = 0; x < MOST_CASES; x++) {
                setAlike(questions, x);
            }
            questions++;
            undoable = 0;
        }

        private void setAlike(int q, int x) {
            int sought = answerIn(q, x);
            int bits = 0;
            for (int y = 0; y < MOST_CASES; y++) {
                if (answerIn(q, y) == sought) {
                    bits |= 1 << y;
                }
            }
            alike[q * MOST_CASES + x] = bits;
        }

        int answerIn(int q, int x) {
            return answerOf(kinds[q], marks[q], x);
        }

        void addAsked(int q, int itsAnswer) {
            if (asked >= MOST_ASKED) {
                return;
            }
            told[asked] = q * ANSWERS + itsAnswer;
            asked++;
            remember(NONE);
        }

        void dropFirstAsked() {
            if (asked < 1) {
                return;
            }
            remember(told[0]);
            asked--;
            System.arraycopy(told, 1, told, 0, asked);
        }

        private void remember(int step) {
            if (undoable >= MOST_UNDONE) {
                System.arraycopy(trail, 1, trail, 0, MOST_UNDONE - 1);
                undoable = MOST_UNDONE - 1;
            }
            trail[undoable] = step;
            undoable++;
        }

        void stepBack() {
            if (undoable < 1) {
                return;
            }
            undoable--;
            int step = trail[undoable];
            if (step == NONE) {
                asked = Math.max(asked - 1, 0);
            } else if (asked < MOST_ASKED) {
                System.arraycopy(told, 0, told, 1, asked);
                told[0] = step;
                asked++;
            }
        }

        int allCases() {
            return (1 << cases) - 1;
        }

        int allSets() {
            return 1 << questions;
        }

        /** CASES that all ASKED fit, but for so many that may be wrong. */
        int fitting(int wrongAtMost) {
            int bits = 0;
            for (int x = 0; x < cases; x++) {
                if (misfits(x) <= wrongAtMost) {
                    bits |= 1 << x;
                }
            }
            return bits;
        }

        private int misfits(int x) {
            int wrong = 0;
            for (int i = 0; i < asked; i++) {
                if (answerIn(told[i] / ANSWERS, x) != told[i] % ANSWERS) {
                    wrong++;
                }
            }
            return wrong;
        }

        /** Which of those bits are still left when all QUESTIONS of a set were asked in CASE x. */
        int behind(int set, int x, int bits) {
            int still = bits;
            for (int q = 0; q < questions; q++) {
                if ((set >> q & 1) == 1) {
                    still &= alike[q * MOST_CASES + x];
                }
            }
            return still;
        }

        int greatestPart(int q, int bits) {
            int greatest = 0;
            for (int x = 0; x < cases; x++) {
                if ((bits >> x & 1) == 1) {
                    greatest = Math.max(greatest, Integer.bitCount(bits & alike[q * MOST_CASES + x]));
                }
            }
            return greatest;
        }

        int howManyParts(int q, int bits) {
            int parts = 0;
            int rest = bits;
            for (int x = 0; x < cases; x++) {
                if ((rest >> x & 1) == 1) {
                    parts++;
                    rest &= ~alike[q * MOST_CASES + x];
                }
            }
            return parts;
        }

        int lightestPart(int q, int bits) {
            int lightest = 0;
            int rest = bits;
            for (int x = 0; x < cases; x++) {
                if ((rest >> x & 1) == 1) {
                    int weight = weightOf(rest & alike[q * MOST_CASES + x]);
                    if (lightest == 0 || weight < lightest) {
                        lightest = weight;
                    }
                    rest &= ~alike[q * MOST_CASES + x];
                }
            }
            return lightest;
        }

        int weightOf(int bits) {
            int weight = 0;
            for (int x = 0; x < cases; x++) {
                if ((bits >> x & 1) == 1) {
                    weight += weights[x];
                }
            }
            return weight;
        }

        boolean partAlike(int i, int j, int bits) {
            for (int x = 0; x < cases; x++) {
                int differing = alike[i * MOST_CASES + x] ^ alike[j * MOST_CASES + x];
                if ((bits >> x & 1) == 1 && (differing & bits) != 0) {
                    return false;
                }
            }
            return true;
        }

        int pairsParted(int set, int bits) {
            int bothWays = 0;
            for (int x = 0; x < cases; x++) {
                if ((bits >> x & 1) == 1) {
                    bothWays += Integer.bitCount(bits & ~behind(set, x, bits));
                }
            }
            return bothWays / 2;
        }

        /** The CASES of those bits that a set of QUESTIONS does not part from all others. */
        int notYetKnown(int set, int bits) {
            int unknown = 0;
            for (int x = 0; x < cases; x++) {
                if ((bits >> x & 1) == 1 && behind(set, x, bits) != 1 << x) {
                    unknown |= 1 << x;
                }
            }
            return unknown;
        }

        int penceOf(int set) {
            int sum = 0;
            for (int q = 0; q < questions; q++) {
                if ((set >> q & 1) == 1) {
                    sum += pence[q];
                }
            }
            return sum;
        }

        long mixInto(long start) {
            long h = start;
            for (int x = 0; x < cases; x++) {
                h = 31 * h + weights[x];
            }
            for (int q = 0; q < questions; q++) {
                h = 31 * h + kinds[q];
                h = 31 * h + marks[q];
                h = 31 * h + pence[q];
            }
            for (int i = 0; i < asked; i++) {
                h = 31 * h + told[i] / ANSWERS;
                h = 31 * h + told[i] % ANSWERS;
            }
            return h;
        }
    }

    /** THE TEXT, and how a fair is read of it. */
    private static final class Reader {
        private static final int END = 0;
        private static final int NUMBER = 1;
        private static final int STOP = 2;
        private static final int FAIR = 3;
        private static final int CASE = 4;
        private static final int QUESTION = 5;
        private static final int OTHER = 6;

        final byte[] bytes = new byte[MOST_TEXT];
        int length;
        final Stand draft = new Stand();
        // The place of the TOKEN's first byte; THE TEXT's length at its end: so it is the FAULT, too.
        int start;
        private int next;
        private int token;
        private int number;

        void addByte(int c) {
            if (length < MOST_TEXT) {
                bytes[length] = (byte) c;
                length++;
            }
        }

        /** How many ITEMS, the fair being in the draft; NONE: there is a FAULT, at start. */
        int readItems() {
            next = 0;
            if (!readFair()) {
                return NONE;
            }
            int items = 1;
            for (int round = 0; round < MOST_TEXT; round++) {
                step();
                if (token == END) {
                    return items;
                }
                boolean fine = token == CASE ? readCase() : mayAskMore() && readQuestion();
                if (!fine) {
                    return NONE;
                }
                items++;
            }
            return items;
        }

        private boolean readFair() {
            step();
            if (token != FAIR || !stepToNumber(1, MOST_CASES)) {
                return false;
            }
            draft.begin(number);
            return stepToStop();
        }

        private boolean mayAskMore() {
            return token == QUESTION && draft.questions < MOST_QUESTIONS;
        }

        private boolean readCase() {
            if (!stepToNumber(0, draft.cases - 1)) {
                return false;
            }
            int x = number;
            if (!stepToNumber(1, MOST_WEIGHT)) {
                return false;
            }
            draft.weights[x] = number;
            return stepToStop();
        }

        private boolean readQuestion() {
            if (!stepToNumber(0, LAST_KIND)) {
                return false;
            }
            int kind = number;
            if (!stepToNumber(0, MOST_MARK)) {
                return false;
            }
            int a = number;
            if (!stepToNumber(0, MOST_PENCE)) {
                return false;
            }
            draft.addQuestion(kind, a, number);
            return stepToStop();
        }

        private boolean stepToNumber(int low, int high) {
            step();
            return token == NUMBER && within(number, low, high);
        }

        private boolean stepToStop() {
            step();
            return token == STOP;
        }

        private void step() {
            while (next < length && bytes[next] == ' ') {
                next++;
            }
            start = next;
            if (next >= length) {
                token = END;
            } else if (isFigure(bytes[next])) {
                stepOverNumber();
            } else if (isLetter(bytes[next])) {
                stepOverWord();
            } else {
                token = bytes[next] == ';' ? STOP : OTHER;
                next++;
            }
        }

        private void stepOverNumber() {
            number = 0;
            while (next < length && isFigure(bytes[next])) {
                number = number * 10 + bytes[next] - '0';
                next++;
            }
            // With a third figure the number may have wrapped around, but it is no TOKEN then.
            token = next - start <= 2 ? NUMBER : OTHER;
        }

        private void stepOverWord() {
            while (next < length && isLetter(bytes[next])) {
                next++;
            }
            if (spells("fair")) {
                token = FAIR;
            } else if (spells("case")) {
                token = CASE;
            } else if (spells("question")) {
                token = QUESTION;
            } else {
                token = OTHER;
            }
        }

        private boolean spells(String word) {
            if (next - start != word.length()) {
                return false;
            }
            for (int i = 0; i < word.length(); i++) {
                if (bytes[start + i] != word.charAt(i)) {
                    return false;
                }
            }
            return true;
        }

        private static boolean isFigure(int c) {
            return c >= '0' && c <= '9';
        }

        private static boolean isLetter(int c) {
            return c >= 'a' && c <= 'z';
        }
    }

    /** AT ONCE: the cheapest set of QUESTIONS by which every CASE is parted from all others. */
    private static final class Purchase {
        int set;
        int pence;

        /** Among sets with all QUESTIONS of one set and none of another. */
        void seek(Stand stand, int left, int with, int none) {
            set = NONE;
            pence = NONE;
            for (int tried = 0; tried < stand.allSets(); tried++) {
                if ((tried & with) == with && (tried & none) == 0) {
                    weighUp(stand, left, tried);
                }
            }
        }

        private void weighUp(Stand stand, int left, int tried) {
            int sum = stand.penceOf(tried);
            boolean better = set == NONE || sum < pence
                    || sum == pence && Integer.bitCount(tried) < Integer.bitCount(set);
            // The dear test comes last: most sets are too dear already.
            if (better && stand.notYetKnown(tried, left) == 0) {
                set = tried;
                pence = sum;
            }
        }

        boolean winsWhenPenceAreLike(Purchase other) {
            int mine = Integer.bitCount(set);
            int its = Integer.bitCount(other.set);
            return mine < its || mine == its && set < other.set;
        }
    }

    /**
     * ONE BY ONE. What is left in a CASE depends only on the set of QUESTIONS that were asked, so a part
     * is told by that set and the part's first CASE, and the tables need no place for each set of CASES.
     */
    private static final class Plan {
        int pence;
        int first;
        int howMany;
        private final int[] least = new int[MOST_SETS * MOST_CASES];
        private final int[] turns = new int[MOST_SETS * MOST_CASES];

        void lay(Stand stand, int left) {
            pence = 0;
            first = NONE;
            howMany = 0;
            for (int set = stand.allSets() - 1; set >= 0; set--) {
                int rest = left;
                for (int x = 0; x < stand.cases; x++) {
                    if ((rest >> x & 1) == 1) {
                        int part = stand.behind(set, x, left);
                        rest &= ~part;
                        settle(stand, set, x, part);
                    }
                }
            }
        }

        /** The empty set is settled last, and its one part is all that is left: so its numbers stay. */
        private void settle(Stand stand, int set, int x, int part) {
            pence = NONE;
            first = NONE;
            howMany = NONE;
            if (part == 1 << x) {
                pence = 0;
                howMany = 0;
            } else {
                chooseNext(stand, set, part);
            }
            least[set * MOST_CASES + x] = pence;
            turns[set * MOST_CASES + x] = howMany;
        }

        private void chooseNext(Stand stand, int set, int part) {
            for (int q = 0; q < stand.questions; q++) {
                if ((set >> q & 1) == 0 && stand.howManyParts(q, part) > 1) {
                    int worst = worstOf(least, stand, set, q, part);
                    if (worst != NONE && (first == NONE || stand.pence[q] + worst < pence)) {
                        first = q;
                        pence = stand.pence[q] + worst;
                    }
                }
            }
            if (first != NONE) {
                howMany = 1 + worstOf(turns, stand, set, first, part);
            }
        }

        /** The worst that a table has for the parts that q makes of a part; NONE: one can not be known. */
        private int worstOf(int[] table, Stand stand, int set, int q, int part) {
            int worst = 0;
            int rest = part;
            for (int x = 0; x < stand.cases; x++) {
                if ((rest >> x & 1) == 1) {
                    int found = table[(set | 1 << q) * MOST_CASES + x];
                    if (found == NONE) {
                        return NONE;
                    }
                    worst = Math.max(worst, found);
                    rest &= ~stand.alike[q * MOST_CASES + x];
                }
            }
            return worst;
        }
    }

    /** ROW and BEST ROW: PENCE times the WEIGHT of the CASES in which they are paid, over all of a row. */
    private static final class Rows {
        // By the set of QUESTIONS already asked: the least that the others cost then.
        final int[] least = new int[MOST_SETS];

        int weighedPence(Stand stand, int left, int row) {
            int sum = 0;
            int set = 0;
            int unit = HIGHEST_UNIT;
            for (int figures = 0; figures < MOST_FIGURES && unit > 0; figures++) {
                int q = row / unit % 10 - 1;
                // A figure 0 is here only ahead of the row's first one.
                if (within(q, 0, stand.questions - 1)) {
                    sum += stand.pence[q] * unknownWeight(stand, left, set);
                    set |= 1 << q;
                }
                unit /= 10;
            }
            return sum;
        }

        int leastRow(Stand stand, int left) {
            for (int set = stand.allSets() - 1; set >= 0; set--) {
                settle(stand, left, set);
            }
            int row = 0;
            int set = 0;
            for (int figures = 0; figures < stand.questions; figures++) {
                int q = firstOfLeast(stand, left, set);
                row = row * 10 + q + 1;
                set |= 1 << q;
            }
            return row;
        }

        private void settle(Stand stand, int left, int set) {
            int unknown = unknownWeight(stand, left, set);
            int found = NONE;
            for (int q = 0; q < stand.questions; q++) {
                if ((set >> q & 1) == 0) {
                    int cost = stand.pence[q] * unknown + least[set | 1 << q];
                    found = found == NONE ? cost : Math.min(found, cost);
                }
            }
            least[set] = Math.max(found, 0);
        }

        private int firstOfLeast(Stand stand, int left, int set) {
            int unknown = unknownWeight(stand, left, set);
            for (int q = 0; q < stand.questions; q++) {
                if ((set >> q & 1) == 0 && stand.pence[q] * unknown + least[set | 1 << q] == least[set]) {
                    return q;
                }
            }
            return 0;
        }

        /** The WEIGHT of the CASES in which the next QUESTION is still paid. */
        private static int unknownWeight(Stand stand, int left, int set) {
            return stand.weightOf(stand.notYetKnown(set, left));
        }
    }

    /** STALLS: numbers drawn one behind the other from X. */
    private static final class Draw {
        long x;

        int oneStall(Stand stand, int left) {
            int truth = bitAt(left, pick(Integer.bitCount(left)));
            int still = left;
            int paid = 0;
            for (int drawn = 0; drawn < MOST_DRAWN && Integer.bitCount(still) > 1; drawn++) {
                int q = pick(stand.questions);
                paid += stand.pence[q];
                still &= stand.alike[q * MOST_CASES + truth];
            }
            return paid;
        }

        private int pick(int howMany) {
            x = (x * 1103515245L + 12345L) % 2147483648L;
            return howMany < 1 ? 0 : (int) (x / 65536L % howMany);
        }

        private static int bitAt(int bits, int place) {
            int seen = 0;
            for (int at = 0; at < MOST_CASES; at++) {
                if ((bits >> at & 1) == 1) {
                    if (seen == place) {
                        return at;
                    }
                    seen++;
                }
            }
            return 0;
        }
    }

    /** THE FRACTION, in lowest terms. */
    private static final class Fraction {
        long above = 0;
        long below = 1;

        void become(long newAbove, long newBelow) {
            long common = commonDivisor(newAbove, newBelow);
            if (newBelow > 0 && common > 0) {
                above = newAbove / common;
                below = newBelow / common;
            }
        }

        private static long commonDivisor(long one, long other) {
            long a = one;
            long b = other;
            // Each second step halves at least, so this is far more than two longs can need.
            for (int round = 0; round < 200 && b != 0; round++) {
                long rest = a % b;
                a = b;
                b = rest;
            }
            return a;
        }
    }
}
