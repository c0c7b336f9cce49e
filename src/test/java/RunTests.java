import java.lang.reflect.Method;
import java.lang.reflect.Modifier;
import java.util.ArrayDeque;
import java.util.ArrayList;
import java.util.Deque;
import java.util.HashMap;
import java.util.LinkedHashMap;
import java.util.List;
import java.util.Map;
import java.util.TreeSet;
import java.util.regex.Matcher;
import java.util.regex.Pattern;

/**
 * Runs of calls one behind the other on one object, up to the 512 that it is used for. The answers that are due are
 * written out here (or told by a formula of the document), so that a later call shows what an earlier one has changed,
 * and that it has left all else as it was.
 */
public final class RunTests {
    private static final int MOST_CALLS = 512;
    private static final Pattern CALL = Pattern.compile("(\\w+)\\(([-\\d,]*)\\)");
    private static final Map<String, Method> FACE = face();
    private static int wrong = 0;
    private static int checks = 0;
    private static int longest = 0;

    /** 6 CASES, 4 QUESTIONS, one ASKED that leaves CASES 2 to 5, three steps to undo, IMAGE 0 of two QUESTIONS. */
    private static final String BUSY = "fair(6)=0 weigh(1,4)=1 weigh(5,3)=1 question(0,2,7)=0 question(2,1,11)=1 "
            + "image(0)=1 question(5,4,5)=2 question(3,2,20)=3 row(213)=1 ask(2,0)=32 ask(0,1)=32 forget()=1 "
            + "type(102)=1 type(97)=2 type(105)=3 type(114)=4 type(50)=5 type(59)=6 fair(0)=-2 from(1)=-3";

    /** What is seen of it; STATUS first, because some that are seen are refused themselves behind a change. */
    private static final String SEEN = "status(0)=1 status(1)=1 status(2)=0 count(0)=6 count(1)=4 count(2)=1 "
            + "count(3)=4 count(4)=3 count(5)=6 left()=60 of(0,2)=7 of(1,0)=2 of(2,1)=4 answer(0,1)=0 answer(1,5)=2 "
            + "cuts(1,0)=2 cuts(1,1)=3 cuts(1,2)=1 cuts(2,2)=1 empty()=1 same(-1)=0 same(0)=-5 best()=2 atOnce(0)=6 "
            + "atOnce(1)=16 oneByOne(0)=16 oneByOne(1)=1 oneByOne(2)=2 oneWrong()=63 knows(4,16,0)=10 knows(4,60,1)=1 "
            + "parted(-1)=6 parted(0)=0 haggle(1)=99 stalls(7,9)=220 part(0)=218 part(1)=11";

    /** By the document's sum of count(0) to count(5), WEIGHTS, QUESTIONS, ASKED and THE FRACTION of BUSY. */
    private static final long DIGEST = digestOf(6, 4, 1, 4, 3, 6, 1, 4, 1, 1, 1, 3,
            0, 2, 7, 2, 1, 11, 5, 4, 5, 3, 2, 20, 0, 1, 218, 11);

    private static long digestOf(long... values) {
        long h = 1091;
        for (long v : values) {
            h = 31 * h + v;
        }
        return h;
    }

    private static Map<String, Method> face() {
        Map<String, Method> all = new HashMap<>();
        for (Method m : QuestionFair.class.getDeclaredMethods()) {
            if (Modifier.isPublic(m.getModifiers())) {
                all.put(m.getName(), m);
            }
        }
        return all;
    }

    private static void due(String what, long got, long want) {
        checks++;
        if (got != want) {
            wrong++;
            System.out.println(what + " answered " + got + ", due is " + want);
        }
    }

    /** Calls with what is due, "name(numbers)=due", in the order in which they are written. */
    private static Map<String, Long> dues(String script) {
        Map<String, Long> all = new LinkedHashMap<>();
        for (String one : script.trim().split("\\s+")) {
            int at = one.indexOf('=');
            if (at > 0) {
                all.put(one.substring(0, at), Long.parseLong(one.substring(at + 1)));
            }
        }
        return all;
    }

    /** One object, and how many calls it has had. */
    private static final class Run {
        final String name;
        final QuestionFair fair = new QuestionFair();
        int calls = 0;

        Run(String name) {
            this.name = name;
        }

        long call(String written) {
            Matcher m = CALL.matcher(written);
            if (!m.matches() || !FACE.containsKey(m.group(1))) {
                throw new IllegalArgumentException(written);
            }
            String[] numbers = m.group(2).isEmpty() ? new String[0] : m.group(2).split(",");
            Object[] given = new Object[numbers.length];
            for (int i = 0; i < given.length; i++) {
                given[i] = Integer.valueOf(numbers[i]);
            }
            calls++;
            longest = Math.max(longest, calls);
            try {
                return ((Number) FACE.get(m.group(1)).invoke(fair, given)).longValue();
            } catch (ReflectiveOperationException e) {
                throw new IllegalStateException(name + ": " + written, e);
            }
        }

        void is(String written, long want) {
            due(name + ", call " + (calls + 1) + ": " + written, call(written), want);
        }

        void play(String script) {
            for (String one : script.trim().split("\\s+")) {
                int at = one.indexOf('=');
                is(one.substring(0, at), Long.parseLong(one.substring(at + 1)));
            }
        }

        void typed(String text) {
            for (int i = 0; i < text.length(); i++) {
                is("type(" + (int) text.charAt(i) + ")", i + 1);
            }
        }

        void ends() {
            due(name + ": calls beyond 512", Math.max(calls - MOST_CALLS, 0), 0);
        }
    }

    // ---- what a call changes, and what it leaves as it was

    private static Run busy(String name) {
        Run run = new Run(name);
        run.play(BUSY);
        return run;
    }

    /** Behind the calls all is seen as of BUSY itself but for what is told to differ. */
    private static Run seenBehind(String calls, String differing) {
        Run run = busy("behind " + calls);
        if (!calls.isEmpty()) {
            run.play(calls);
        }
        Map<String, Long> want = dues(SEEN);
        want.putAll(dues(differing));
        for (Map.Entry<String, Long> one : want.entrySet()) {
            run.is(one.getKey(), one.getValue());
        }
        run.ends();
        return run;
    }

    private static void changes(String calls, String differing) {
        Run run = seenBehind(calls, differing);
        due(run.name + ": digest() is another", run.call("digest()") == DIGEST ? 1 : 0, 0);
    }

    private static void leaves(String calls, String differing) {
        Run run = seenBehind(calls, differing);
        run.is("digest()", DIGEST);
    }

    private static void changesOfAFair() {
        leaves("", "");
        changes("fair(4)=4", "count(0)=4 count(1)=0 count(2)=0 count(4)=0 left()=15 of(0,2)=-2 of(1,0)=-2 of(2,1)=-2 "
                + "answer(0,1)=-2 answer(1,5)=-2 cuts(1,0)=-2 cuts(1,1)=-2 cuts(1,2)=-2 cuts(2,2)=-2 empty()=0 "
                + "best()=-1 atOnce(0)=-1 atOnce(1)=-1 oneByOne(0)=-1 oneByOne(1)=-1 oneByOne(2)=-1 oneWrong()=15 "
                + "knows(4,16,0)=-10 knows(4,60,1)=-10 parted(-1)=0 parted(0)=-10 haggle(1)=-2 stalls(7,9)=-3");
        changes("read()=1", "count(0)=2 count(1)=0 count(2)=0 count(3)=2 count(4)=0 left()=3 of(0,2)=-2 of(1,0)=-2 "
                + "of(2,1)=-2 answer(0,1)=-2 answer(1,5)=-2 cuts(1,0)=-2 cuts(1,1)=-2 cuts(1,2)=-2 cuts(2,2)=-2 "
                + "empty()=0 best()=-1 atOnce(0)=-1 atOnce(1)=-1 oneByOne(0)=-1 oneByOne(1)=-1 oneByOne(2)=-1 "
                + "oneWrong()=3 knows(4,16,0)=-10 knows(4,60,1)=-10 parted(-1)=0 parted(0)=-10 haggle(1)=-2 "
                + "stalls(7,9)=-3");
        changes("weigh(4,9)=1", "cuts(2,2)=2");
        // A CASE that is not LEFT weighs nothing there.
        changes("weigh(0,9)=1", "");
        changes("question(2,2,3)=4", "count(1)=5 count(4)=0 best()=4 atOnce(0)=16 atOnce(1)=3 oneByOne(0)=3 "
                + "oneByOne(1)=4 oneByOne(2)=1 knows(4,16,0)=24 haggle(1)=-1 stalls(7,9)=166");
        changes("question(0,4,2)=4", "count(1)=5 count(4)=0 same(-1)=1 same(0)=34 best()=4 atOnce(0)=18 atOnce(1)=13 "
                + "oneByOne(0)=13 knows(4,16,0)=22 stalls(7,9)=495");
        changes("question(0,0,0)=4 question(0,0,0)=5 question(0,0,0)=6 question(0,0,0)=-4", "status(2)=1 count(1)=7 "
                + "count(4)=0 empty()=113 same(-1)=6 same(0)=4 knows(4,16,0)=80 stalls(7,9)=234");
        changes("price(1,2)=11", "best()=1 atOnce(1)=7 oneByOne(0)=7 stalls(7,9)=166");
        changes("price(0,99)=7", "of(0,2)=99 stalls(7,9)=404");
        changes("type(32)=7", "count(5)=7");
        changes("clear()=6", "count(5)=0");
        changes("type(32)=7 clear()=7", "count(5)=0");
        changes("type(9)=7 read()=-16 clear()=7", "count(5)=0");
        leaves("weigh(4,9)=1 weigh(4,1)=9", "");
        leaves("price(1,2)=11 price(1,11)=2", "");
    }

    private static void changesOfAsked() {
        changes("ask(1,1)=16", "count(2)=2 count(3)=1 count(4)=4 left()=16 cuts(1,0)=1 cuts(1,1)=1 empty()=15 "
                + "same(-1)=6 same(0)=1 atOnce(0)=0 atOnce(1)=0 oneByOne(0)=0 oneByOne(1)=-1 oneByOne(2)=0 "
                + "oneWrong()=62 parted(-1)=0 haggle(1)=-1 stalls(7,9)=0");
        changes("ask(1,2)=36", "count(2)=2 count(3)=2 count(4)=4 left()=36 cuts(1,1)=1 cuts(1,2)=4 empty()=3 "
                + "same(-1)=2 same(0)=1 atOnce(0)=4 atOnce(1)=5 oneByOne(0)=5 oneByOne(1)=2 oneByOne(2)=1 "
                + "oneWrong()=60 parted(-1)=1 haggle(1)=-1 stalls(7,9)=133");
        changes("ask(2,9)=0", "count(2)=2 count(3)=0 count(4)=4 left()=0 cuts(1,0)=0 cuts(1,1)=0 cuts(1,2)=0 "
                + "cuts(2,2)=0 empty()=15 same(-1)=6 same(0)=1 best()=-1 atOnce(0)=0 atOnce(1)=0 oneByOne(0)=0 "
                + "oneByOne(1)=-1 oneByOne(2)=0 oneWrong()=60 parted(-1)=0 haggle(1)=-1 stalls(7,9)=-3");
        String allLeft = "count(2)=0 count(3)=6 left()=63 cuts(1,2)=2 empty()=0 best()=1 atOnce(0)=7 atOnce(1)=23 "
                + "oneByOne(0)=18 parted(-1)=15 parted(0)=8 stalls(7,9)=249 ";
        changes("forget()=0", allLeft + "count(4)=4");
        changes("undo()=2 undo()=1 undo()=0", allLeft + "count(4)=0");
        String lastLeft = "count(3)=1 left()=32 cuts(1,0)=1 cuts(1,1)=1 cuts(1,2)=3 cuts(2,2)=3 empty()=15 same(-1)=6 "
                + "same(0)=1 atOnce(0)=0 atOnce(1)=0 oneByOne(0)=0 oneByOne(1)=-1 oneByOne(2)=0 parted(-1)=0 "
                + "haggle(1)=-1 stalls(7,9)=0 ";
        changes("undo()=2", lastLeft + "count(2)=2 count(4)=2 oneWrong()=60");
        changes("undo()=2 undo()=1", lastLeft + "count(4)=1");
        changes("undo()=2 ask(0,1)=32 forget()=2", "count(2)=2 count(4)=4 oneWrong()=60");
        leaves("ask(1,1)=16 undo()=1", "");
        leaves("forget()=0 undo()=1", "");
        leaves("undo()=2 forget()=1", "");
        leaves("ask(1,1)=16 ask(2,2)=16 forget()=2 forget()=1 undo()=2 undo()=3 undo()=2 undo()=1", "");
    }

    private static void changesOfTheRest() {
        leaves("image(1)=1", "");
        leaves("image(0)=1", "");
        changes("from(0)=1", "count(1)=2 count(2)=0 count(3)=6 count(4)=0 left()=63 of(2,1)=-2 cuts(1,2)=2 "
                + "cuts(2,2)=-2 empty()=0 best()=1 atOnce(0)=-1 atOnce(1)=-1 oneByOne(0)=-1 oneByOne(1)=-1 "
                + "oneByOne(2)=-1 knows(4,16,0)=1 parted(-1)=14 parted(0)=8 haggle(1)=-1 stalls(7,9)=531");
        leaves("image(1)=1 fair(9)=4 from(1)=1", "");
        leaves("image(1)=1 ask(1,0)=8 weigh(3,9)=1 price(0,1)=7 from(1)=1", "");
        leaves("image(0)=1 read()=1 from(0)=1", "");
        leaves("image(1)=1 undo()=2 undo()=1 undo()=0 ask(1,0)=9 forget()=0 ask(1,1)=18 from(1)=1 undo()=2 left()=32 "
                + "undo()=1 left()=32 undo()=0 left()=63 undo()=-3 from(1)=1", "status(1)=2");
        leaves("image(0)=1 from(0)=1 from(1)=-3", "status(1)=2");
        changes("row(12)=1", "part(0)=18 part(1)=1");
        changes("row(0)=1", "part(0)=0 part(1)=1");
        changes("bestRow()=3214", "part(0)=26 part(1)=3");
        changes("weigh(4,9)=1 row(23)=1", "cuts(2,2)=2 part(0)=87 part(1)=7");
        changes("price(1,2)=11 bestRow()=2314", "best()=1 atOnce(1)=7 oneByOne(0)=7 stalls(7,9)=166 part(0)=16 "
                + "part(1)=3");
    }

    private static void changesOfRefused() {
        String[] bad = {
            "fair(17)=-2", "weigh(6,1)=-2", "question(6,0,0)=-2", "price(4,0)=-2", "type(128)=-2", "ask(4,0)=-2",
            "of(0,3)=-2", "answer(0,6)=-2", "cuts(4,0)=-2", "same(-2)=-10", "atOnce(2)=-2", "oneByOne(3)=-2",
            "knows(0,2,0)=-10", "parted(4)=-10", "row(5)=-2", "row(8)=-2", "haggle(4)=-2", "stalls(0,61)=-2",
            "part(2)=-2", "image(2)=-2", "from(2)=-2", "status(3)=-1", "count(6)=-2",
        };
        for (String one : bad) {
            leaves(one, "status(0)=2");
        }
        leaves(String.join(" ", bad), "status(0)=" + (1 + bad.length));
        leaves("from(1)=-3", "status(1)=2");
        leaves("forget()=0 forget()=-3 undo()=1", "status(1)=2");
        leaves("ask(1,3)=0 row(1)=-3 bestRow()=-3 stalls(0,1)=-3 undo()=1", "status(1)=4");
    }

    // ---- each call as the 512th

    /** Pairs that leave all as it was; together they are every call that can be taken back. */
    private static final String[] BACK_AND_FORTH = {
        "ask(1,1)=16 undo()=1", "forget()=0 undo()=1", "weigh(4,9)=1 weigh(4,1)=9", "price(1,2)=11 price(1,11)=2",
        "image(1)=1 from(1)=1", "oneByOne(0)=16 atOnce(0)=6", "haggle(1)=99 stalls(7,9)=220", "undo()=2 forget()=1",
        "knows(4,60,1)=1 same(-1)=0", "best()=2 oneWrong()=63",
    };

    private static void eachCallAsTheLast() {
        String changing = " fair(4)=4 weigh(4,9)=1 question(2,2,3)=4 price(1,2)=11 type(32)=7 clear()=6 read()=1 "
                + "ask(1,2)=36 forget()=0 undo()=2 image(0)=1 from(0)=1 row(12)=1 bestRow()=3214 "
                + "digest()=" + DIGEST;
        TreeSet<String> names = new TreeSet<>();
        for (Map.Entry<String, Long> last : dues(SEEN + changing).entrySet()) {
            Run run = busy("the 512th " + last.getKey());
            run.is("count(0)", 6);
            for (int i = 0; run.calls < MOST_CALLS - 1; i++) {
                run.play(BACK_AND_FORTH[i % BACK_AND_FORTH.length]);
            }
            run.is(last.getKey(), last.getValue());
            due(run.name + ": calls", run.calls, MOST_CALLS);
            names.add(last.getKey().substring(0, last.getKey().indexOf('(')));
        }
        due("methods that were the 512th call", names.size(), FACE.size());
    }

    // ---- long runs

    /** Each of 16 CASES is found by three QUESTIONS, which are then taken back in turns by undo and by forget. */
    private static void everyCaseFound() {
        Run run = new Run("every CASE found");
        run.play("fair(16)=0 question(0,8,10)=0 question(2,2,25)=1 question(0,4,10)=2 question(0,12,10)=3");
        int steps = 0;
        for (int x = 0; x < 16; x++) {
            int half = x < 8 ? 0x00ff : 0xff00;
            int pair = half & 0x1111 << x % 4;
            int third = x < 8 ? 2 : 3;
            int upper = x % 8 < 4 ? 0 : 1;
            run.is("ask(0," + x / 8 + ")", half);
            run.is("oneByOne(2)", 2);
            run.is("ask(1," + x % 4 + ")", pair);
            run.is("oneByOne(1)", third);
            run.is("best()", third);
            run.is("ask(" + third + "," + upper + ")", 1 << x);
            run.is("left()", 1 << x);
            run.is("oneByOne(1)", -1);
            run.is("empty()", 15);
            // With one of the three wrong: CASES that fit two of them.
            run.is("oneWrong()", pair | half & 0x0f0f << 4 * upper | 0x1111 << x % 4 & quarter(third, upper));
            run.is("row(1234)", 1);
            run.is("part(0)", 0);
            if (x % 2 == 0) {
                run.play("undo()=2 undo()=1");
                run.is("left()", half);
                run.play("undo()=0");
                steps = Math.min(steps + 3, 8) - 3;
            } else {
                run.play("forget()=2 forget()=1");
                run.is("left()", quarter(third, upper));
                run.play("forget()=0");
                steps = Math.min(steps + 6, 8);
            }
            run.is("left()", 0xffff);
            run.is("count(4)", steps);
        }
        run.ends();
    }

    /** CASES that fit a WHETHER of the two that part a half. */
    private static int quarter(int third, int answer) {
        int from = third == 2 ? 0xfff0 : 0xf000;
        return answer == 1 ? from : 0xffff & ~from;
    }

    /** ASKED as a ring: the first is forgotten for each that comes, and 8 steps lead back from anywhere. */
    private static void askedInARing() {
        Run run = new Run("ASKED in a ring");
        run.play("fair(3)=0 question(0,1,1)=0 question(0,2,1)=1");
        Deque<Integer> asked = new ArrayDeque<>();
        Deque<List<Integer>> earlier = new ArrayDeque<>();
        for (int i = 0; run.calls < MOST_CALLS - 30; i++) {
            earlier.addLast(new ArrayList<>(asked));
            if (asked.size() == 8 || i % 5 == 4) {
                asked.removeFirst();
                run.is("forget()", asked.size());
            } else {
                asked.addLast(i % 4);
                run.is("ask(" + i % 2 + "," + i / 2 % 2 + ")", leftOf(asked));
            }
            if (earlier.size() > 8) {
                earlier.removeFirst();
            }
            run.is("count(4)", earlier.size());
            if (i % 37 == 36) {
                stepsBack(run, asked, earlier, 5);
            }
        }
        stepsBack(run, asked, earlier, 8);
        run.is("undo()", -3);
        run.is("left()", leftOf(asked));
        run.is("status(1)", 1);
        run.ends();
    }

    private static void stepsBack(Run run, Deque<Integer> asked, Deque<List<Integer>> earlier, int steps) {
        for (int back = 0; back < steps && !earlier.isEmpty(); back++) {
            asked.clear();
            asked.addAll(earlier.removeLast());
            run.is("undo()", asked.size());
            run.is("left()", leftOf(asked));
        }
    }

    /** Of 3 CASES: 0 and 2 say that x is below 1, at least 1; 1 and 3 say so of 2. */
    private static int leftOf(Iterable<Integer> asked) {
        int left = 7;
        for (int one : asked) {
            int atLeast = one % 2 == 0 ? 6 : 4;
            left &= one / 2 == 1 ? atLeast : 7 & ~atLeast;
        }
        return left;
    }

    /** THE TEXT three times full: one that is read, one with a FAULT at its end, one that is mended by a new one. */
    private static void textsUpToTheEnd() {
        Run run = new Run("texts");
        String seven = "fair 16;" + "question4 7 99;" + "question0 8 1;".repeat(6) + "case15 9;case0 2;";
        run.typed(seven + " ".repeat(150 - seven.length()));
        run.play("type(32)=-4 read()=10 count(0)=16 count(1)=7 weigh(15,9)=9 weigh(0,2)=2 weigh(1,1)=1 of(0,2)=99 "
                + "cuts(0,1)=10 ask(0,0)=33 row(2)=1 part(0)=1 image(0)=1 fair(2)=7 count(5)=150 read()=10 count(2)=0 "
                + "undo()=-3 part(0)=1 clear()=150 read()=-10 count(1)=7");
        String faulty = "fair 3;case 2 5;" + " ".repeat(130) + "case";
        run.typed(faulty);
        run.play("read()=-160 count(0)=16 count(1)=7 clear()=150 from(0)=1 count(2)=1 left()=33 count(5)=0");
        run.typed("fair 3;case 2 5;question 5 1 4;");
        run.play("read()=3 count(0)=3 weigh(2,5)=5 atOnce(0)=1 atOnce(1)=4 ask(0,2)=2 read()=3 count(2)=0 left()=7 "
                + "type(99)=32 read()=-41 type(97)=33 read()=-41 from(0)=1 left()=33 count(5)=33 status(0)=0 "
                + "status(1)=1 status(2)=1");
        run.ends();
    }

    /** Fairs of 2 to 8 CASES by a WHETHER for each: nothing of an earlier one may shine through a later one. */
    private static void fairBehindFair() {
        Run run = new Run("fair behind fair");
        int before = 0;
        for (int n : new int[] {8, 2, 5, 3, 8, 1, 7, 4, 6, 8, 2, 8}) {
            int pence = 3 + n;
            run.is("fair(" + n + ")", before);
            for (int a = 1; a < n; a++) {
                run.is("question(0," + a + "," + pence + ")", a - 1);
            }
            int turns = 32 - Integer.numberOfLeadingZeros(n - 1);
            run.is("left()", (1 << n) - 1);
            run.is("atOnce(0)", (1 << n - 1) - 1);
            run.is("atOnce(1)", pence * (n - 1));
            run.is("oneByOne(0)", pence * turns);
            run.is("oneByOne(2)", turns);
            run.is("parted(-1)", n * (n - 1) / 2);
            run.is("same(-1)", 0);
            run.is("empty()", 0);
            run.is("knows(0," + ((1 << n) - 1) + ",0)", 1);
            run.is("weigh(0,9)", 1);
            run.is("row(0)", 1);
            run.is("part(1)", 1);
            for (int q = 0; q < n - 1; q++) {
                run.is("haggle(" + q + ")", 99);
                run.is("cuts(" + q + ",2)", Math.min(9 + q, n - 1 - q));
            }
            before = n - 1;
        }
        run.ends();
    }

    /** All 512 calls: refused ones by reason between calls that are none. */
    private static void refusalsCounted() {
        Run run = new Run("STATUS");
        int[] counted = new int[3];
        String[][] refused = {
            {"fair(0)=-2", "weigh(8,1)=-2", "same(-2)=-10", "parted(7)=-10", "status(-1)=-1", "knows(0,2,0)=-10"},
            {"undo()=-3", "forget()=-3", "from(0)=-3", "from(1)=-3"},
            {"question(0,0,0)=-4", "question(5,15,99)=-4"},
        };
        String[] fine = {"same(0)=1", "left()=255", "read()=-10", "atOnce(0)=-1", "same(21)=-5", "haggle(0)=-1"};
        for (int q = 0; q < 7; q++) {
            run.is("question(0,0,0)", q);
        }
        for (int i = 0; run.calls < MOST_CALLS - 3; i++) {
            int reason = i * 7 % 5 % 3;
            if (i % 4 == 3) {
                run.play(fine[i / 4 % fine.length]);
            } else if (i % 9 == 1) {
                run.is("status(" + reason + ")", counted[reason]);
            } else {
                run.play(refused[reason][i % refused[reason].length]);
                counted[reason]++;
            }
        }
        for (int reason = 0; reason < 3; reason++) {
            run.is("status(" + reason + ")", counted[reason]);
        }
        due("STATUS: calls", run.calls, MOST_CALLS);
    }

    /** Two IMAGES kept over and over, each time of other CASES, PENCE and ASKED; THE FRACTION and THE TEXT go on. */
    private static void imagesOverAndOver() {
        Run run = new Run("IMAGES");
        int[] cases = new int[2];
        int[] asked = new int[2];
        int typed = 0;
        for (int i = 0; run.calls < MOST_CALLS - 40; i++) {
            int at = i * 3 % 7 % 2;
            cases[at] = 2 + i % 15;
            asked[at] = i % 5;
            run.call("fair(" + cases[at] + ")");
            run.is("question(0,1," + i + ")", 0);
            for (int k = 0; k < asked[at]; k++) {
                run.is("ask(0,0)", 1);
            }
            run.is("image(" + at + ")", 1);
            run.is("weigh(0,9)", 1);
            run.is("price(0,99)", i);
            run.is("forget()", asked[at] > 0 ? asked[at] - 1 : -3);
            run.is("type(32)", ++typed);
            run.is("from(" + at + ")", 1);
            run.is("weigh(0,1)", 1);
            run.is("of(0,2)", i);
            run.is("count(4)", asked[at]);
            run.is("row(1)", 1);
            run.is("part(0)", asked[at] > 0 ? 0 : i);
            if (cases[1 - at] > 0) {
                run.is("from(" + (1 - at) + ")", 1);
                run.is("count(0)", cases[1 - at]);
                run.is("count(2)", asked[1 - at]);
                run.is("undo()", asked[1 - at] > 0 ? asked[1 - at] - 1 : -3);
                run.is("part(0)", asked[at] > 0 ? 0 : i);
                run.is("count(5)", typed);
            }
        }
        run.ends();
    }

    public static void main(String[] args) {
        changesOfAFair();
        changesOfAsked();
        changesOfTheRest();
        changesOfRefused();
        eachCallAsTheLast();
        everyCaseFound();
        askedInARing();
        textsUpToTheEnd();
        fairBehindFair();
        refusalsCounted();
        imagesOverAndOver();
        System.out.println(checks + " checks, the longest run has " + longest + " calls, " + wrong + " wrong");
        if (wrong != 0) {
            System.exit(1);
        }
    }
}
