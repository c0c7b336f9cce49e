import java.util.ArrayList;
import java.util.List;

/**
 * "Refused, changing nothing but STATUS": each call that is refused is made on one of two twins, and everything that
 * can be seen of both afterwards must be alike but for one more in STATUS, under the call's own reason. Calls that
 * only tell something ("Nothing is changed by these") are tried in the same way, with no reason at all.
 */
public final class RefusalTests {
    private static final int BAD = 0;
    private static final int NO = 1;
    private static final int FULL = 2;
    private static final int NO_REASON = -1;
    private static final int LEAST = Integer.MIN_VALUE;
    private static final int MOST = Integer.MAX_VALUE;
    private static int wrong = 0;
    private static int checks = 0;

    private interface Call {
        long on(QuestionFair f);
    }

    /** The states in which calls are tried. */
    private enum State {
        NEW, BUSY, STUFFED, NOTHING_LEFT
    }

    private static void due(String what, long got, long want) {
        checks++;
        if (got != want) {
            wrong++;
            System.out.println(what + " answered " + got + ", due is " + want);
        }
    }

    private static void typeAll(QuestionFair f, String text) {
        for (int i = 0; i < text.length(); i++) {
            f.type(text.charAt(i));
        }
    }

    private static QuestionFair made(State state) {
        switch (state) {
            case NEW:
                return new QuestionFair();
            case BUSY:
                return busy();
            case STUFFED:
                return stuffed();
            default:
                return nothingLeft();
        }
    }

    /** Five CASES, three QUESTIONS, two ASKED, one forgotten, IMAGE 0 kept, a TEXT that can be read. */
    private static QuestionFair busy() {
        QuestionFair f = new QuestionFair();
        f.fair(5);
        f.weigh(1, 4);
        f.question(0, 2, 7);
        f.ask(0, 0);
        f.image(0);
        f.undo();
        f.question(2, 1, 11);
        f.question(5, 3, 20);
        f.weigh(4, 9);
        f.row(213);
        f.ask(1, 2);
        f.ask(0, 1);
        f.ask(2, 1);
        f.forget();
        typeAll(f, "fair 3;case 2 9;question 4 3 8;");
        f.undo();
        f.forget();
        f.fair(99);
        f.from(1);
        return f;
    }

    /** 7 QUESTIONS, 8 ASKED, 8 that may be undone, 150 bytes, both IMAGES; CASES 4 and 5 are LEFT. */
    private static QuestionFair stuffed() {
        QuestionFair f = new QuestionFair();
        f.fair(6);
        f.weigh(5, 8);
        f.image(1);
        for (int q = 0; q < 7; q++) {
            f.question(0, q == 6 ? 5 : 4, 10 + q);
        }
        f.row(7);
        f.image(0);
        for (int i = 0; i < 8; i++) {
            f.ask(i % 6, 1);
        }
        typeAll(f, "fair 2;question 1 1 1;");
        for (int i = f.count(5); i < 150; i++) {
            f.type(' ');
        }
        return f;
    }

    /** QUESTIONS are there, but what was ASKED leaves nothing. */
    private static QuestionFair nothingLeft() {
        QuestionFair f = new QuestionFair();
        f.question(0, 4, 3);
        f.question(3, 3, 5);
        f.row(12);
        f.ask(0, 0);
        f.ask(0, 1);
        return f;
    }

    /** Everything that can be seen but STATUS; it changes the object, so it comes last. */
    private static List<Long> seen(QuestionFair f) {
        List<Long> all = new ArrayList<>();
        seeTheStand(f, all);
        for (int i = 0; i < 2; i++) {
            all.add((long) f.from(i));
            seeTheStand(f, all);
        }
        all.add((long) f.read());
        seeTheStand(f, all);
        all.add((long) f.clear());
        return all;
    }

    private static void seeTheStand(QuestionFair f, List<Long> all) {
        all.add(f.digest());
        for (int what = 0; what < 6; what++) {
            all.add((long) f.count(what));
        }
        all.add((long) f.left());
        all.add((long) f.oneWrong());
        all.add(f.part(0));
        all.add(f.part(1));
        for (int q = 0; q < f.count(1); q++) {
            for (int what = 0; what < 3; what++) {
                all.add((long) f.of(q, what));
            }
        }
        int back = f.count(4);
        for (int i = 0; i <= back; i++) {
            all.add((long) f.undo());
            all.add(f.digest());
        }
    }

    private static void tried(State state, String name, Call call, long reply, int reason) {
        QuestionFair untouched = made(state);
        QuestionFair f = made(state);
        String what = state + " " + name;
        due(what, call.on(f), reply);
        for (int r = 0; r < 3; r++) {
            due(what + ", then status(" + r + ")", f.status(r), untouched.status(r) + (r == reason ? 1 : 0));
        }
        List<Long> want = seen(untouched);
        List<Long> got = seen(f);
        due(what + ", how much is seen then", got.size(), want.size());
        for (int i = 0; i < Math.min(got.size(), want.size()); i++) {
            due(what + ", the " + i + "-th that is seen then", got.get(i), want.get(i));
        }
    }

    private static void bad(State state, String name, Call call) {
        tried(state, name, call, -2, BAD);
    }

    private static void badAsTen(State state, String name, Call call) {
        tried(state, name, call, -10, BAD);
    }

    private static void no(State state, String name, Call call) {
        tried(state, name, call, -3, NO);
    }

    private static void full(State state, String name, Call call) {
        tried(state, name, call, -4, FULL);
    }

    /** The call answers what it does on an untouched twin, and nothing is changed. */
    private static void tells(State state, String name, Call call) {
        tried(state, name, call, call.on(made(state)), NO_REASON);
    }

    private static void badFairs(State state) {
        int n = made(state).count(0);
        for (int v : new int[] {LEAST, -1, 0, 17, MOST}) {
            bad(state, "fair(" + v + ")", f -> f.fair(v));
        }
        for (int v : new int[] {LEAST, -1, n, 16, 32, MOST}) {
            bad(state, "weigh(" + v + ", 2)", f -> f.weigh(v, 2));
        }
        for (int v : new int[] {LEAST, -1, 0, 10, MOST}) {
            bad(state, "weigh(0, " + v + ")", f -> f.weigh(0, v));
        }
        for (int v : new int[] {LEAST, -1, 6, MOST}) {
            bad(state, "question(" + v + ", 0, 0)", f -> f.question(v, 0, 0));
        }
        for (int v : new int[] {LEAST, -1, 16, MOST}) {
            bad(state, "question(0, " + v + ", 0)", f -> f.question(0, v, 0));
        }
        for (int v : new int[] {LEAST, -1, 100, MOST}) {
            bad(state, "question(0, 0, " + v + ")", f -> f.question(0, 0, v));
        }
        for (int v : new int[] {LEAST, -1, 128, 256, 32 + 256, MOST}) {
            bad(state, "type(" + v + ")", f -> f.type(v));
        }
    }

    /** A QUESTION that is not there, in each call that takes one. */
    private static void badQuestions(State state) {
        int there = made(state).count(1);
        for (int v : new int[] {LEAST, -2, -1, there, 7, 32, MOST}) {
            bad(state, "price(" + v + ", 1)", f -> f.price(v, 1));
            bad(state, "ask(" + v + ", 1)", f -> f.ask(v, 1));
            bad(state, "of(" + v + ", 0)", f -> f.of(v, 0));
            bad(state, "answer(" + v + ", 0)", f -> f.answer(v, 0));
            bad(state, "cuts(" + v + ", 0)", f -> f.cuts(v, 0));
            bad(state, "haggle(" + v + ")", f -> f.haggle(v));
            if (v != QuestionFair.NONE) {
                badAsTen(state, "parted(" + v + ")", f -> f.parted(v));
            }
        }
    }

    /** The other numbers beside a QUESTION that is there. */
    private static void badBesideQuestions(State state) {
        int n = made(state).count(0);
        for (int v : new int[] {LEAST, -1, 100, MOST}) {
            bad(state, "price(0, " + v + ")", f -> f.price(0, v));
        }
        for (int v : new int[] {LEAST, -1, 16, MOST}) {
            bad(state, "ask(0, " + v + ")", f -> f.ask(0, v));
        }
        for (int v : new int[] {LEAST, -1, n, 16, MOST}) {
            bad(state, "answer(0, " + v + ")", f -> f.answer(0, v));
        }
        for (int v : new int[] {LEAST, -1, 3, MOST}) {
            bad(state, "of(0, " + v + ")", f -> f.of(0, v));
            bad(state, "cuts(0, " + v + ")", f -> f.cuts(0, v));
        }
    }

    private static void badWhats(State state) {
        for (int v : new int[] {LEAST, -3, -2}) {
            badAsTen(state, "same(" + v + ")", f -> f.same(v));
        }
        for (int v : new int[] {LEAST, -1, 2, MOST}) {
            bad(state, "atOnce(" + v + ")", f -> f.atOnce(v));
            bad(state, "part(" + v + ")", f -> f.part(v));
            bad(state, "image(" + v + ")", f -> f.image(v));
            bad(state, "from(" + v + ")", f -> f.from(v));
        }
        for (int v : new int[] {LEAST, -1, 3, MOST}) {
            bad(state, "oneByOne(" + v + ")", f -> f.oneByOne(v));
            tried(state, "status(" + v + ")", f -> f.status(v), -1, BAD);
        }
        for (int v : new int[] {LEAST, -1, 6, MOST}) {
            bad(state, "count(" + v + ")", f -> f.count(v));
        }
    }

    private static void badKnows(State state) {
        int n = made(state).count(0);
        int all = (1 << n) - 1;
        for (int v : new int[] {LEAST, -1, n, 16, 32, MOST}) {
            badAsTen(state, "knows(" + v + ", all, 0)", f -> f.knows(v, all, 0));
        }
        for (int v : new int[] {LEAST, LEAST + 1, -1, 0, 2, all - 1, all + 1, all + 2, MOST}) {
            badAsTen(state, "knows(0, " + v + ", 0)", f -> f.knows(0, v, 0));
        }
        for (int v : new int[] {LEAST, -1, 2, MOST}) {
            badAsTen(state, "knows(0, 1, " + v + ")", f -> f.knows(0, 1, v));
        }
    }

    private static void badRowsAndStalls(State state) {
        int next = made(state).count(1) + 1;
        int[] rows = {LEAST, -11, -1, 8, 9, 10, next, 10 * next, 100 * next + 11, 1000000 * next + 111111, 1111011,
            7777778, 7777780, 10000000, 11111111, 77777777, 1111111111, MOST};
        for (int v : rows) {
            bad(state, "row(" + v + ")", f -> f.row(v));
        }
        for (int v : new int[] {LEAST, -1, 1000000, MOST}) {
            bad(state, "stalls(" + v + ", 1)", f -> f.stalls(v, 1));
        }
        for (int v : new int[] {LEAST, -1, 61, MOST}) {
            bad(state, "stalls(1, " + v + ")", f -> f.stalls(1, v));
        }
    }

    private static void allBad() {
        for (State state : State.values()) {
            badFairs(state);
            badQuestions(state);
            if (state != State.NEW) {
                badBesideQuestions(state);
            }
            badWhats(state);
            badKnows(state);
            badRowsAndStalls(state);
        }
    }

    private static void allNo() {
        no(State.NEW, "forget()", f -> f.forget());
        no(State.NEW, "undo()", f -> f.undo());
        no(State.NEW, "stalls(0, 0)", f -> f.stalls(0, 0));
        no(State.NEW, "stalls(999999, 60)", f -> f.stalls(999999, 60));
        no(State.NEW, "from(0)", f -> f.from(0));
        no(State.NEW, "from(1)", f -> f.from(1));
        no(State.BUSY, "from(1)", f -> f.from(1));
        no(State.NOTHING_LEFT, "row(0)", f -> f.row(0));
        no(State.NOTHING_LEFT, "row(21)", f -> f.row(21));
        no(State.NOTHING_LEFT, "bestRow()", f -> f.bestRow());
        no(State.NOTHING_LEFT, "stalls(0, 0)", f -> f.stalls(0, 0));
        no(State.NOTHING_LEFT, "stalls(5, 9)", f -> f.stalls(5, 9));
    }

    private static void allFull() {
        full(State.STUFFED, "question(0, 0, 0)", f -> f.question(0, 0, 0));
        full(State.STUFFED, "question(5, 15, 99)", f -> f.question(5, 15, 99));
        full(State.STUFFED, "ask(0, 0)", f -> f.ask(0, 0));
        full(State.STUFFED, "ask(6, 15)", f -> f.ask(6, 15));
        full(State.STUFFED, "type(0)", f -> f.type(0));
        full(State.STUFFED, "type(127)", f -> f.type(127));
    }

    /** What is no refusal at all, though it finds nothing: NONE, -5 and a FAULT. */
    private static void notRefused() {
        tried(State.NEW, "best()", f -> f.best(), -1, NO_REASON);
        tried(State.NEW, "atOnce(0)", f -> f.atOnce(0), -1, NO_REASON);
        tried(State.NEW, "atOnce(1)", f -> f.atOnce(1), -1, NO_REASON);
        for (int what = 0; what < 3; what++) {
            int v = what;
            tried(State.NEW, "oneByOne(" + v + ")", f -> f.oneByOne(v), -1, NO_REASON);
        }
        tried(State.NEW, "knows(0, 1, 1)", f -> f.knows(0, 1, 1), -1, NO_REASON);
        tried(State.NOTHING_LEFT, "best()", f -> f.best(), -1, NO_REASON);
        tried(State.NOTHING_LEFT, "haggle(0)", f -> f.haggle(0), -1, NO_REASON);
        tried(State.NEW, "same(0)", f -> f.same(0), -5, NO_REASON);
        tried(State.NEW, "same(MOST)", f -> f.same(MOST), -5, NO_REASON);
        tried(State.NEW, "read() of nothing", f -> f.read(), -10, NO_REASON);
        tried(State.NOTHING_LEFT, "read() of nothing", f -> f.read(), -10, NO_REASON);
        tried(State.NEW, "clear() of nothing", f -> f.clear(), 0, NO_REASON);
    }

    private static void onlyTold(State state) {
        QuestionFair twin = made(state);
        int questions = twin.count(1);
        int cases = twin.count(0);
        tells(state, "left()", f -> f.left());
        tells(state, "empty()", f -> f.empty());
        tells(state, "best()", f -> f.best());
        tells(state, "oneWrong()", f -> f.oneWrong());
        tells(state, "digest()", f -> f.digest());
        tells(state, "parted(-1)", f -> f.parted(-1));
        for (int k = -1; k < 22; k++) {
            int v = k;
            tells(state, "same(" + v + ")", f -> f.same(v));
        }
        for (int what = 0; what < 3; what++) {
            int v = what;
            tells(state, "oneByOne(" + v + ")", f -> f.oneByOne(v));
            tells(state, "status(" + v + ")", f -> f.status(v));
            tells(state, "count(" + (v + 3) + ")", f -> f.count(v + 3));
            tells(state, "count(" + v + ")", f -> f.count(v));
        }
        for (int what = 0; what < 2; what++) {
            int v = what;
            tells(state, "atOnce(" + v + ")", f -> f.atOnce(v));
            tells(state, "part(" + v + ")", f -> f.part(v));
            tells(state, "knows(0, 1, " + v + ")", f -> f.knows(0, 1, v));
            tells(state, "knows(last, all, " + v + ")", f -> f.knows(cases - 1, (1 << cases) - 1, v));
        }
        for (int q = 0; q < questions; q++) {
            toldOfQuestion(state, q, cases - 1);
        }
        if (questions > 0 && twin.left() != 0) {
            tells(state, "stalls(0, 0)", f -> f.stalls(0, 0));
            tells(state, "stalls(999999, 60)", f -> f.stalls(999999, 60));
        }
    }

    private static void toldOfQuestion(State state, int q, int lastCase) {
        for (int what = 0; what < 3; what++) {
            int v = what;
            tells(state, "of(" + q + ", " + v + ")", f -> f.of(q, v));
            tells(state, "cuts(" + q + ", " + v + ")", f -> f.cuts(q, v));
        }
        tells(state, "answer(" + q + ", 0)", f -> f.answer(q, 0));
        tells(state, "answer(" + q + ", last)", f -> f.answer(q, lastCase));
        tells(state, "parted(" + q + ")", f -> f.parted(q));
        tells(state, "haggle(" + q + ")", f -> f.haggle(q));
    }

    /** The states are what the tests above take them for. */
    private static void theStates() {
        QuestionFair f = made(State.STUFFED);
        due("STUFFED QUESTIONS", f.count(1), 7);
        due("STUFFED ASKED", f.count(2), 8);
        due("STUFFED CASES LEFT", f.count(3), 2);
        due("STUFFED that may be undone", f.count(4), 8);
        due("STUFFED bytes", f.count(5), 150);
        due("NOTHING_LEFT CASES LEFT", made(State.NOTHING_LEFT).count(3), 0);
        QuestionFair b = made(State.BUSY);
        due("BUSY ASKED", b.count(2), 2);
        due("BUSY that may be undone", b.count(4), 4);
        due("BUSY status(0)", b.status(0), 1);
        due("BUSY status(1)", b.status(1), 1);
        due("BUSY read()", b.read(), 3);
    }

    public static void main(String[] args) {
        theStates();
        allBad();
        allNo();
        allFull();
        notRefused();
        for (State state : State.values()) {
            onlyTold(state);
        }
        System.out.println(checks + " checks, " + wrong + " wrong");
        if (wrong != 0) {
            System.exit(1);
        }
    }
}
