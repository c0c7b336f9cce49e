import java.math.BigInteger;
import java.nio.file.Files;
import java.nio.file.Path;
import java.util.ArrayList;
import java.util.List;

/**
 * The document sentence by sentence: each test names the words it stands for, and its checks are the edges of those
 * words: the least and the greatest that is taken, the next ones that are not, nothing there, full. At the end the
 * words are looked up in ../shared/DOC.md, so that no sentence of it is without a test, and no test without one.
 */
public final class SentenceTests {
    private static final Path DOCUMENT = Path.of("../shared/DOC.md");
    private static final List<String> WORDS = new ArrayList<>();
    private static int wrong = 0;
    private static int checks = 0;
    private static String sentence = "";

    private static void says(String words) {
        sentence = words;
        WORDS.add(words);
    }

    private static void due(String call, long got, long want) {
        checks++;
        if (got != want) {
            wrong++;
            System.out.println("\"" + sentence + "\": " + call + " answered " + got + ", due is " + want);
        }
    }

    private static void fractionIs(QuestionFair f, long above, long below) {
        due("part(0)", f.part(0), above);
        due("part(1)", f.part(1), below);
    }

    private static void refusals(QuestionFair f, int bad, int no, int full) {
        due("status(0)", f.status(0), bad);
        due("status(1)", f.status(1), no);
        due("status(2)", f.status(2), full);
    }

    /** n CASES and QUESTIONS told by KIND, a, PENCE. */
    private static QuestionFair of(int n, int... questions) {
        QuestionFair f = new QuestionFair();
        f.fair(n);
        for (int i = 0; i + 2 < questions.length; i += 3) {
            f.question(questions[i], questions[i + 1], questions[i + 2]);
        }
        return f;
    }

    /** n CASES, each told from the one ahead of it by a WHETHER of its own. */
    private static QuestionFair ladder(int n, int pence) {
        QuestionFair f = of(n);
        for (int a = 1; a < n; a++) {
            f.question(0, a, pence);
        }
        return f;
    }

    private static void typeAll(QuestionFair f, String text) {
        f.clear();
        for (int i = 0; i < text.length(); i++) {
            f.type(text.charAt(i));
        }
    }

    private static void readIs(String text, int due) {
        QuestionFair f = new QuestionFair();
        typeAll(f, text);
        due("read() of '" + text + "'", f.read(), due);
        due("count(5) behind it", f.count(5), text.length());
        if (due < 0) {
            due("digest() behind it", f.digest(), digestOf(8, 0, 0, 8, 0, text.length(), 1, 1, 1, 1, 1, 1, 1, 1, 0, 1));
        }
    }

    private static void faultAt(int place, String text) {
        readIs(text, -10 - place);
    }

    private static String blanks(int howMany) {
        return " ".repeat(Math.max(howMany, 0));
    }

    private static long digestOf(long... values) {
        BigInteger h = BigInteger.valueOf(1091);
        for (long v : values) {
            h = h.multiply(BigInteger.valueOf(31)).add(BigInteger.valueOf(v));
        }
        return h.longValue();
    }

    // ---- part 1: cases, questions, kinds

    private static void cases() {
        says("CASES 0 .. n less 1 (n is 1 ..");
        says("16; 8 at first), each with a WEIGHT (1 .. 9; 1 at first).");
        QuestionFair f = new QuestionFair();
        due("count(0)", f.count(0), 8);
        due("fair(0)", f.fair(0), -2);
        due("fair(17)", f.fair(17), -2);
        for (int n = 1; n <= 16; n++) {
            due("fair(" + n + ")", f.fair(n), 0);
            due("count(0)", f.count(0), n);
            due("left()", f.left(), (1 << n) - 1);
            for (int x = 0; x < n; x++) {
                due("weigh(" + x + ", 9), 1 at first", f.weigh(x, 9), 1);
            }
            due("weigh(-1, 1)", f.weigh(-1, 1), -2);
            due("weigh(" + n + ", 1)", f.weigh(n, 1), -2);
            due("weigh(last, 0)", f.weigh(n - 1, 0), -2);
            due("weigh(last, 10)", f.weigh(n - 1, 10), -2);
            due("weigh(last, 1)", f.weigh(n - 1, 1), 9);
            due("weigh(last, 9)", f.weigh(n - 1, 9), 1);
        }
        refusals(f, 2 + 16 * 4, 0, 0);
    }

    private static void questionsComing() {
        says("QUESTIONS 0 .. 6, as they come: a KIND, a (0 .. 15), PENCE (0 .. 99).");
        QuestionFair f = new QuestionFair();
        int[][] edges = {{0, 0, 0}, {5, 0, 0}, {0, 15, 0}, {0, 0, 99}, {5, 15, 99}, {1, 2, 3}, {4, 14, 98}};
        for (int q = 0; q < 7; q++) {
            due("of(" + q + ", 0), not there yet", f.of(q, 0), -2);
            due("question " + q, f.question(edges[q][0], edges[q][1], edges[q][2]), q);
        }
        for (int q = 0; q < 7; q++) {
            for (int what = 0; what < 3; what++) {
                due("of(" + q + ", " + what + ")", f.of(q, what), edges[q][what]);
            }
        }
        due("an 8th", f.question(0, 0, 0), -4);
        due("count(1)", f.count(1), 7);
        refusals(f, 7, 0, 1);
        for (int[] edge : new int[][] {{-1, 0, 0}, {6, 0, 0}, {0, -1, 0}, {0, 16, 0}, {0, 0, -1}, {0, 0, 100}}) {
            QuestionFair g = new QuestionFair();
            due("one beyond", g.question(edge[0], edge[1], edge[2]), -2);
            due("count(1)", g.count(1), 0);
        }
    }

    private static void answersAre(int kind, int a, int... answers) {
        QuestionFair f = of(answers.length, kind, a, 0);
        for (int x = 0; x < answers.length; x++) {
            due("KIND " + kind + ", a " + a + ", CASE " + x, f.answer(0, x), answers[x]);
        }
    }

    private static void kinds() {
        says("KINDS, each under the one told, say the ANSWER in CASE x:");
        says("0 WHETHER: 1, if x is a or more, else 0.");
        answersAre(0, 0, 1, 1, 1);
        answersAre(0, 1, 0, 1, 1);
        answersAre(0, 15, 0, 0, 0, 0, 0, 0, 0, 0, 0, 0, 0, 0, 0, 0, 0, 1);
        answersAre(0, 3, 0, 0, 0);
        says("1 DENIED (under WHETHER): 1 less WHETHER.");
        answersAre(1, 0, 0, 0, 0);
        answersAre(1, 1, 1, 0, 0);
        answersAre(1, 15, 1, 1, 1, 1, 1, 1, 1, 1, 1, 1, 1, 1, 1, 1, 1, 0);
        says("2 LEFT OVER (under WHETHER): x by what a by 4 leaves over and 2, left over.");
        answersAre(2, 0, 0, 1, 0, 1, 0);
        answersAre(2, 1, 0, 1, 2, 0, 1);
        answersAre(2, 2, 0, 1, 2, 3, 0);
        answersAre(2, 3, 0, 1, 2, 3, 4, 0);
        answersAre(2, 4, 0, 1, 0, 1, 0);
        answersAre(2, 15, 0, 1, 2, 3, 4, 0, 1, 2, 3, 4, 0, 1, 2, 3, 4, 0);
        says("3 HALVES (under LEFT OVER): half of LEFT OVER (cut).");
        answersAre(3, 0, 0, 0, 0, 0);
        answersAre(3, 3, 0, 0, 1, 1, 2, 0);
        answersAre(3, 14, 0, 0, 1, 1, 0, 0, 1, 1);
        says("4 WHY (under LEFT OVER): LEFT OVER; 5 more, if WHETHER (of x, a) is 1.");
        answersAre(4, 0, 5, 6, 5, 6);
        answersAre(4, 3, 0, 1, 2, 8, 9, 5, 6);
        answersAre(4, 15, 0, 1, 2, 3, 4, 0, 1, 2, 3, 4, 0, 1, 2, 3, 4, 5);
        says("5 FORGED (under DENIED): 2 in CASE a, else as DENIED.");
        answersAre(5, 0, 2, 0, 0);
        answersAre(5, 1, 1, 2, 0);
        answersAre(5, 2, 1, 1, 2);
        answersAre(5, 3, 1, 1, 1);
        answersAre(5, 15, 1, 1, 1, 1, 1, 1, 1, 1, 1, 1, 1, 1, 1, 1, 1, 2);
    }

    private static void askedAndLeft() {
        says("ASKED: QUESTIONS with an ANSWER (0 .. 15), 8 at most, as they come (the same again, too).");
        QuestionFair f = of(4, 0, 2, 1, 4, 3, 1);
        due("count(2), nothing ASKED", f.count(2), 0);
        due("ask(0, -1)", f.ask(0, -1), -2);
        due("ask(0, 16)", f.ask(0, 16), -2);
        due("ask(0, 0)", f.ask(0, 0), 3);
        due("ask(0, 0), the same again", f.ask(0, 0), 3);
        due("count(2)", f.count(2), 2);
        due("ask(1, 15)", f.ask(1, 15), 0);
        for (int i = 4; i <= 8; i++) {
            due("ask(1, 1)", f.ask(1, 1), 0);
            due("count(2)", f.count(2), i);
        }
        due("a 9th", f.ask(0, 0), -4);
        due("count(2)", f.count(2), 8);
        due("digest(), as they come", f.digest(), digestOf(4, 2, 8, 0, 8, 0, 1, 1, 1, 1, 0, 2, 1, 4, 3, 1,
                0, 0, 0, 0, 1, 15, 1, 1, 1, 1, 1, 1, 1, 1, 1, 1, 0, 1));
        due("forget(), then there is room", f.forget(), 7);
        due("ask(0, 0)", f.ask(0, 0), 0);
        refusals(f, 2, 0, 1);

        says("LEFT: CASES (bits) that all ASKED fit.");
        QuestionFair g = of(16, 0, 8, 1, 2, 3, 1);
        due("left(), nothing ASKED", g.left(), 65535);
        due("ask(0, 1)", g.ask(0, 1), 0xff00);
        due("ask(1, 4)", g.ask(1, 4), 1 << 9 | 1 << 14);
        due("left()", g.left(), 1 << 9 | 1 << 14);
        due("ask(1, 0)", g.ask(1, 0), 0);
        due("left(), nothing LEFT", g.left(), 0);
        due("left() of one CASE", of(1).left(), 1);

        says("A QUESTION PARTS CASES (bits): those with the same ANSWER are one part.");
        QuestionFair h = of(16, 4, 7, 0, 0, 0, 0, 2, 0, 0);
        due("ten ANSWERS", h.cuts(0, 1), 10);
        due("one ANSWER", h.cuts(1, 1), 1);
        due("CASES that do not stand side by side", h.cuts(2, 1), 2);
        due("CASES that do not stand side by side", h.cuts(2, 0), 8);
    }

    // ---- part 1: a fair told by a text

    private static void texts() {
        says("THE FAIR is told by a TEXT (150 bytes at most) of ITEMS, each ended by ; :");
        String seven = "question0 0 0;".repeat(7);
        String most = "fair 16;" + seven;
        readIs(most + blanks(150 - most.length()), 8);
        readIs(blanks(150 - most.length()) + most, 8);
        readIs("fair 8;" + blanks(139) + "case", -10 - 150);
        QuestionFair f = new QuestionFair();
        typeAll(f, most + blanks(150 - most.length()));
        due("a 151st byte", f.type(';'), -4);
        due("count(5)", f.count(5), 150);
        due("read() behind it", f.read(), 8);
        readIs("fair 8", -16);
        readIs("fair 8;", 1);
        readIs("fair 8;case 0 1", -25);
        readIs("fair 8;case 0 1;", 2);
        readIs("fair 8;question 0 0 0", -31);
        readIs("fair 8;question 0 0 0;", 2);

        says("fair n (once, first of all); case x WEIGHT; question KIND a PENCE.");
        QuestionFair g = new QuestionFair();
        typeAll(g, "fair 3;question 5 15 99;case 2 9;case 0 1;question 0 0 0;case 2 8;");
        due("read()", g.read(), 6);
        due("digest()", g.digest(), digestOf(3, 2, 0, 3, 0, 66, 1, 1, 8, 5, 15, 99, 0, 0, 0, 0, 1));
        readIs("fair 1;", 1);
        readIs("fair 16;", 1);

        says("TOKENS: words of letters a .. z, figures (1 or 2 are one number), ; ; blanks (32) between.");
        readIs("  fair   8  ;  ", 1);
        readIs("fair8;case7 9;question5 15 99;", 3);
        readIs("fair 08;case 07 09;question 05 15 09;", 3);
        readIs("fair 09;", 1);
        readIs("fair 16;case 10 1;case1 1;", 3);
        faultAt(11, "fair 9;case;");
        faultAt(0, "fairz 8;");
        faultAt(0, "faira 8;");
        faultAt(0, "f air 8;");
        faultAt(7, "fair 1 6;");
        faultAt(15, "fair 16;case 10;");
    }

    private static void faults() {
        says("FAULT: the place of the first byte of the first TOKEN that can not stand there (");
        faultAt(5, "fair fair 8;");
        faultAt(5, "fair ;");
        faultAt(7, "fair 8;8");
        faultAt(7, "fair 8;;");
        faultAt(7, "fair 8 8;");
        faultAt(7, "fair 8 case 0 1;");
        faultAt(6, "fair 8case 0 1;");
        faultAt(16, "fair 8;case 0 1 question 0 0 0;");
        faultAt(22, "fair 8;question 0 0 0 0;");
        faultAt(5, "fair 0;fair 0;");
        says("a word that is none,");
        faultAt(0, "f");
        faultAt(0, "fai");
        faultAt(0, "fairs 8;");
        faultAt(2, "  fear 8;");
        faultAt(7, "fair 8;cas");
        faultAt(7, "fair 8;cases 0 1;");
        faultAt(8, "fair 8; questio 0 0 0;");
        faultAt(7, "fair 8;questions 0 0 0;");
        faultAt(7, "fair 8;casequestion 0 0 0;");
        wordsOffByOne();
        faultAt(14, "fair 8;case 1 x;");
        faultAt(12, "fair 8;case x 1;");
        faultAt(18, "fair 8;question 1 x 1;");
        faultAt(20, "fair 8;question 1 1 case;");
        faultAt(15, "fair 8;case 1 1x;");
        says("fair again,");
        faultAt(7, "fair 8;fair 8;");
        faultAt(9, "fair 8;  fair");
        faultAt(16, "fair 8;case 0 1;fair 8;");
        says("anything ahead of it,");
        faultAt(0, "case 0 1;fair 8;");
        faultAt(1, " question 0 0 0;fair 8;");
        faultAt(0, "8 fair 8;");
        faultAt(2, "  ;fair 8;");
        says("an 8th question at its word,");
        String seven = "fair 1;" + "question0 0 0;".repeat(7);
        readIs(seven, 8);
        readIs(seven + "case 0 9;", 9);
        faultAt(105, seven + "question0 0 0;");
        faultAt(105, seven + "question");
        faultAt(108, seven + "   question 9 99 999;");
        faultAt(114, seven + "case 0 9;question0 0 0;");
        says("a third figure's number,");
        faultAt(5, "fair 100;");
        faultAt(5, "fair 001;");
        faultAt(5, "fair 161;");
        faultAt(5, "fair " + "0".repeat(145));
        faultAt(5, "fair " + "4294967304" + ";");
        faultAt(12, "fair 8;case 007 1;");
        faultAt(14, "fair 8;case 0 001;");
        faultAt(16, "fair 8;question 005 0 0;");
        faultAt(18, "fair 8;question 0 015 0;");
        faultAt(20, "fair 8;question 0 0 099;");
        faultAt(20, "fair 8;question 0 0 100;");
        says("a number not as told,");
        faultAt(5, "fair 0;");
        faultAt(5, "fair 00;");
        faultAt(5, "fair 17;");
        faultAt(14, "fair 8;case 0 0;");
        faultAt(14, "fair 8;case 0 10;");
        faultAt(16, "fair 8;question 6 0 0;");
        faultAt(18, "fair 8;question 0 16 0;");
        readIs("fair 8;case 0 1;case 7 9;question 0 0 0;question 5 15 99;", 5);
        says("also a CASE beyond n,");
        faultAt(12, "fair 1;case 1 1;");
        faultAt(12, "fair 8;case 8 1;");
        faultAt(13, "fair 16;case 16 1;");
        faultAt(12, "fair 8;case 99 0;");
        readIs("fair 1;case 0 1;", 2);
        readIs("fair 16;case 15 1;", 2);
        says("a byte that begins none, too);");
        for (int c = 0; c < 128; c++) {
            readIs((char) c + "", c == ' ' ? -11 : -10);
            readIs("fair 8;" + (char) c, c == ' ' ? 1 : -17);
        }
        for (char c : "\u0000\t\n\u001f!/:<@AFZ[`{\u007f-,.".toCharArray()) {
            faultAt(4, "fair" + c + "8;");
            faultAt(6, "fair 1" + c + "8;");
            faultAt(7, "fair 8;" + c + ";");
        }
    }

    /** Each letter of each word is looked at, and neither one more nor one fewer will do. */
    private static void wordsOffByOne() {
        String[][] items = {{"", "fair", " 8;"}, {"fair 8;", "case", " 0 1;"}, {"fair 8;", "question", " 0 0 0;"}};
        for (String[] item : items) {
            String word = item[1];
            int place = item[0].length();
            for (int i = 0; i < word.length(); i++) {
                faultAt(place, item[0] + word.substring(0, i) + "x" + word.substring(i + 1) + item[2]);
                faultAt(place, item[0] + word.substring(0, i) + word.substring(i + 1) + item[2]);
                faultAt(place, item[0] + word.substring(0, i) + "x" + word.substring(i) + item[2]);
            }
        }
        QuestionFair f = new QuestionFair();
        String[] texts = {
            "fair 8;fair", "xyz 8;", "fair 8;case 0 1;", "fair 8;xyz 0 1;", "fair 8;question 1 1 1", "fair x;",
        };
        int[] dues = {-17, -10, 2, -17, -31, -15};
        for (int i = 0; i < texts.length; i++) {
            typeAll(f, texts[i]);
            due("read() of '" + texts[i] + "' behind the others", f.read(), dues[i]);
        }
    }

    private static void textsThatEnd() {
        says("the TEXT's length, if it ends too early (an empty one, too).");
        String text = "fair 8;case 0 1;question 0 0 0;";
        for (int length = 0; length <= text.length(); length++) {
            int due = -10 - length;
            if (length >= 1 && length <= 3) {
                due = -10;
            } else if (length >= 8 && length <= 10) {
                due = -17;
            } else if (length >= 17 && length <= 23) {
                due = -26;
            } else if (length == 7) {
                due = 1;
            } else if (length == 16) {
                due = 2;
            } else if (length == 31) {
                due = 3;
            }
            readIs(text.substring(0, length), due);
        }
        readIs("", -10);
        readIs(" ", -11);
        readIs(blanks(150), -160);
        readIs("fair 8  ", -18);

        says("A FAIR that is read takes the place of all but IMAGES, THE TEXT, THE FRACTION, STATUS (ASKED none; "
                + "nothing to undo).");
        QuestionFair f = of(3, 0, 1, 7, 0, 2, 4);
        f.weigh(0, 9);
        f.row(12);
        f.ask(0, 1);
        f.image(1);
        f.ask(0, 99);
        f.from(0);
        typeAll(f, "fair 2;question 1 1 5;");
        due("read()", f.read(), 2);
        due("digest()", f.digest(), digestOf(2, 1, 0, 2, 0, 22, 1, 1, 1, 1, 5, 85, 11));
        due("undo()", f.undo(), -3);
        refusals(f, 1, 2, 0);
        f.ask(0, 1);
        due("read() again of the same", f.read(), 2);
        due("digest()", f.digest(), digestOf(2, 1, 0, 2, 0, 22, 1, 1, 1, 1, 5, 85, 11));
        partingIs(f, new int[] {2}, 1, 5);
        due("from(0)", f.from(0), -3);
        due("from(1)", f.from(1), 1);
        due("digest()", f.digest(), digestOf(3, 2, 1, 2, 1, 22, 9, 1, 1, 0, 1, 7, 0, 2, 4, 0, 1, 85, 11));
    }

    /** How many parts each QUESTION makes, and AT ONCE: told of the QUESTIONS that are there now. */
    private static void partingIs(QuestionFair f, int[] parts, int atOnce, int pence) {
        for (int q = 0; q < parts.length; q++) {
            due("cuts(" + q + ", 1)", f.cuts(q, 1), parts[q]);
        }
        atOnceIs(f, atOnce, pence);
    }

    // ---- part 2: what it cuts

    private static void cutsEmptySame() {
        says("(Nothing is changed by these.)");
        QuestionFair still = of(4, 0, 2, 5, 2, 0, 6);
        still.ask(0, 1);
        still.row(21);
        long before = still.digest();
        still.cuts(0, 0);
        still.empty();
        still.same(-1);
        still.best();
        still.atOnce(0);
        still.oneByOne(0);
        still.oneWrong();
        still.knows(0, 1, 0);
        still.parted(-1);
        still.haggle(1);
        still.stalls(7, 60);
        due("digest()", still.digest(), before);
        due("undo()", still.undo(), 0);

        says("CUTS of a QUESTION: the greatest part of what is LEFT (how many CASES); how many parts there are; the "
                + "lightest part's WEIGHT (all 0, if nothing is LEFT).");
        QuestionFair f = of(16, 0, 15, 0, 4, 7, 0, 0, 0, 0);
        int[][] dues = {{15, 2, 1}, {2, 10, 1}, {16, 1, 16}};
        cutsAre(f, dues);
        for (int x = 0; x < 16; x++) {
            f.weigh(x, 9);
        }
        cutsAre(f, new int[][] {{15, 2, 9}, {2, 10, 9}, {16, 1, 144}});
        f.weigh(15, 1);
        cutsAre(f, new int[][] {{15, 2, 1}, {2, 10, 9}, {16, 1, 136}});
        f.ask(0, 1);
        cutsAre(f, new int[][] {{1, 1, 1}, {1, 1, 1}, {1, 1, 1}});
        f.ask(0, 0);
        cutsAre(f, new int[][] {{0, 0, 0}, {0, 0, 0}, {0, 0, 0}});

        QuestionFair first = of(4, 0, 1, 0);
        for (int x = 1; x < 4; x++) {
            first.weigh(x, 2);
        }
        cutsAre(first, new int[][] {{3, 2, 1}});
        first.ask(0, 0);
        cutsAre(first, new int[][] {{1, 1, 1}});
        // What is not LEFT is light, but is not weighed.
        QuestionFair some = of(8, 2, 0, 0, 0, 6, 0, 0, 4, 0);
        for (int x = 4; x < 8; x++) {
            some.weigh(x, 9 - x % 2);
        }
        some.ask(2, 1);
        cutsAre(some, new int[][] {{2, 2, 16}, {2, 2, 17}, {4, 1, 34}});

        says("EMPTY: QUESTIONS (bits) that do not part what is LEFT in two at least.");
        due("empty(), no QUESTIONS", new QuestionFair().empty(), 0);
        QuestionFair g = of(4, 0, 0, 0, 0, 1, 0, 0, 2, 0, 0, 3, 0, 0, 4, 0, 2, 0, 0, 5, 15, 0);
        due("empty()", g.empty(), 1 + 16 + 64);
        g.ask(2, 1);
        due("empty(), CASES 2 and 3 LEFT", g.empty(), 1 + 2 + 4 + 16 + 64);
        g.ask(3, 1);
        due("empty(), one LEFT", g.empty(), 127);
        g.ask(3, 0);
        due("empty(), nothing LEFT", g.empty(), 127);

        says("SAME: pairs of QUESTIONS i less than j that part what is LEFT alike: how many; the k-th (10 i and j).");
        QuestionFair h = of(4);
        due("same(-1), no QUESTIONS", h.same(-1), 0);
        due("same(0), no QUESTIONS", h.same(0), -5);
        h.question(0, 2, 5);
        due("same(-1), one QUESTION", h.same(-1), 0);
        h.question(1, 2, 6);
        h.question(0, 3, 5);
        h.question(3, 2, 5);
        due("same(-1), other ANSWERS but the same parts", h.same(-1), 3);
        due("same(0)", h.same(0), 1);
        due("same(1)", h.same(1), 3);
        due("same(2)", h.same(2), 13);
        due("same(3)", h.same(3), -5);
        h.ask(0, 0);
        due("same(-1), of what is LEFT", h.same(-1), 6);
        sevenAlike();
    }

    private static void cutsAre(QuestionFair f, int[][] dues) {
        for (int q = 0; q < dues.length; q++) {
            for (int what = 0; what < 3; what++) {
                due("cuts(" + q + ", " + what + ")", f.cuts(q, what), dues[q][what]);
            }
        }
    }

    private static void sevenAlike() {
        QuestionFair f = of(16);
        for (int q = 0; q < 7; q++) {
            f.question(q % 2, 3, q);
        }
        due("same(-1), all alike", f.same(-1), 21);
        int k = 0;
        for (int i = 0; i < 7; i++) {
            for (int j = i + 1; j < 7; j++) {
                due("same(" + k + ")", f.same(k), 10 * i + j);
                k++;
            }
        }
        due("same(21)", f.same(21), -5);
        f.ask(0, 0);
        f.ask(0, 1);
        due("same(-1), nothing LEFT", f.same(-1), 21);
    }

    private static void bests() {
        says("BEST: the QUESTION whose greatest part is fewest CASES; of like ones that of least PENCE, then the first; "
                + "none: no QUESTIONS, nothing LEFT.");
        due("best(), no QUESTIONS", new QuestionFair().best(), -1);
        QuestionFair f = of(8, 0, 1, 0, 0, 5, 0, 0, 4, 99, 1, 4, 98, 0, 4, 98);
        due("best()", f.best(), 3);
        f.price(4, 97);
        due("best()", f.best(), 4);
        f.price(2, 97);
        due("best()", f.best(), 2);
        f.price(2, 0);
        f.price(3, 0);
        f.price(4, 0);
        due("best(), all for nothing", f.best(), 2);
        due("best(), a worse one for less behind it", of(8, 0, 4, 99, 0, 3, 0).best(), 0);
        due("best(), a better one for more behind it", of(8, 0, 3, 0, 0, 4, 99).best(), 1);
        QuestionFair one = of(1, 0, 0, 2, 0, 0, 1, 0, 0, 1);
        due("best(), one LEFT", one.best(), 1);
        one.ask(0, 0);
        due("best(), nothing LEFT", one.best(), -1);
        refusals(one, 0, 0, 0);
    }

    private static void atOnceIs(QuestionFair f, int bits, int pence) {
        due("atOnce(0)", f.atOnce(0), bits);
        due("atOnce(1)", f.atOnce(1), pence);
    }

    private static void atOnces() {
        says("AT ONCE: the set of QUESTIONS (bits) of least PENCE by whose ANSWERS together each CASE LEFT is parted from "
                + "all others; of like ones fewer QUESTIONS, then the least bits: which, how much; none.");
        atOnceIs(new QuestionFair(), -1, -1);
        atOnceIs(of(1), 0, 0);
        atOnceIs(of(1, 0, 0, 0), 0, 0);
        atOnceIs(of(2, 0, 0, 0, 0, 2, 0), -1, -1);
        atOnceIs(ladder(8, 99), 127, 693);
        atOnceIs(ladder(8, 0), 127, 0);
        atOnceIs(of(16, 2, 2, 10, 0, 4, 10, 0, 8, 10, 0, 12, 10), 15, 40);
        // Four CASES: WHETHERs for 5 each, or one LEFT OVER by 4.
        atOnceIs(of(4, 0, 1, 5, 0, 2, 5, 0, 3, 5, 2, 2, 16), 7, 15);
        atOnceIs(of(4, 0, 1, 5, 0, 2, 5, 0, 3, 5, 2, 2, 15), 8, 15);
        atOnceIs(of(4, 0, 1, 5, 0, 2, 5, 0, 3, 5, 2, 2, 14), 8, 14);
        // One for nothing beside the one that is needed: fewer are taken.
        atOnceIs(of(2, 0, 0, 0, 0, 1, 3), 2, 3);
        atOnceIs(of(2, 0, 1, 0, 1, 1, 0, 2, 0, 0), 1, 0);
        atOnceIs(of(2, 0, 1, 3, 1, 1, 2, 2, 0, 2), 2, 2);
        QuestionFair f = of(4, 0, 1, 5, 0, 2, 5);
        atOnceIs(f, -1, -1);
        f.ask(1, 0);
        atOnceIs(f, 1, 5);
        f.ask(0, 0);
        atOnceIs(f, 0, 0);
        f.ask(0, 1);
        atOnceIs(f, 0, 0);
        refusals(f, 0, 0, 0);
    }

    private static void oneByOneIs(QuestionFair f, int pence, int first, int howMany) {
        due("oneByOne(0)", f.oneByOne(0), pence);
        due("oneByOne(1)", f.oneByOne(1), first);
        due("oneByOne(2)", f.oneByOne(2), howMany);
    }

    private static void oneByOnes() {
        says("ONE BY ONE: each next one as ANSWERS come: the least PENCE at worst by which it is surely known which of "
                + "those LEFT it is;");
        oneByOneIs(ladder(8, 99), 297, 3, 3);
        oneByOneIs(ladder(2, 99), 99, 0, 1);
        // By one LEFT OVER at once, or by two WHETHERs behind one another.
        oneByOneIs(of(4, 2, 2, 11, 0, 1, 5, 0, 2, 5, 0, 3, 5), 10, 2, 2);
        oneByOneIs(of(4, 2, 2, 10, 0, 1, 5, 0, 2, 5, 0, 3, 5), 10, 0, 1);
        oneByOneIs(of(4, 2, 2, 9, 0, 1, 5, 0, 2, 5, 0, 3, 5), 9, 0, 1);
        says("the QUESTION to be asked first, so that it is so (the first; none: it is known, or nothing LEFT);");
        QuestionFair f = of(3, 0, 1, 5, 0, 2, 5);
        oneByOneIs(f, 10, 0, 2);
        f.price(0, 6);
        oneByOneIs(f, 11, 0, 2);
        oneByOneIs(of(2, 0, 1, 3, 1, 1, 3), 3, 0, 1);
        oneByOneIs(of(2, 0, 1, 4, 1, 1, 3), 3, 1, 1);
        f.ask(0, 0);
        oneByOneIs(f, 0, -1, 0);
        f.ask(0, 1);
        oneByOneIs(f, 0, -1, 0);
        oneByOneIs(of(1), 0, -1, 0);
        oneByOneIs(of(1, 0, 0, 0), 0, -1, 0);
        QuestionFair straight = ladder(4, 5);
        oneByOneIs(straight, 10, 1, 2);
        straight.ask(0, 15);
        oneByOneIs(straight, 0, -1, 0);
        straight.undo();
        oneByOneIs(straight, 10, 1, 2);
        straight.fair(2);
        oneByOneIs(straight, -1, -1, -1);
        straight.question(1, 1, 4);
        oneByOneIs(straight, 4, 0, 1);
        says("how many QUESTIONS at worst that takes, the first such QUESTION being asked each time; none: it can not be.");
        // The first for nothing makes it three, where two would be enough.
        oneByOneIs(of(4, 0, 1, 0, 0, 2, 5, 0, 3, 5), 10, 0, 3);
        oneByOneIs(of(4, 0, 2, 5, 0, 1, 0, 0, 3, 5), 10, 0, 2);
        oneByOneIs(ladder(8, 0), 0, 0, 7);
        oneByOneIs(new QuestionFair(), -1, -1, -1);
        oneByOneIs(of(2, 0, 0, 0, 0, 2, 0), -1, -1, -1);
        QuestionFair g = of(4, 0, 1, 5, 0, 2, 5);
        oneByOneIs(g, -1, -1, -1);
        g.ask(1, 0);
        oneByOneIs(g, 5, 0, 1);
        refusals(g, 0, 0, 0);
        oneByOneBesideAll();
    }

    /** On one object for some fairs, so that nothing of an earlier one may shine through. */
    private static void oneByOneBesideAll() {
        QuestionFair f = new QuestionFair();
        for (int made = 0; made < 120; made++) {
            int n = 2 + made * 7 % 15;
            QuestionFair twin = of(n);
            if (made % 30 == 0) {
                f = new QuestionFair();
            }
            f.fair(n);
            for (int q = 0; q < 7; q++) {
                int kind = (made + q * 5) % 6;
                int a = (made * 3 + q * 5) % 16;
                int pence = (made * 11 + q * q * 7) % 30;
                f.question(kind, a, pence);
                twin.question(kind, a, pence);
            }
            Seen seen = new Seen(twin);
            int[] dues = seen.oneByOne(seen.left);
            oneByOneIs(f, dues[0], dues[1], dues[2]);
        }
    }

    private static void oneWrongKnowsParted() {
        says("ONE WRONG: CASES (bits) that all ASKED but one at most fit.");
        QuestionFair f = of(4, 0, 2, 1, 0, 3, 1);
        due("oneWrong(), nothing ASKED", f.oneWrong(), 15);
        f.ask(0, 15);
        due("oneWrong(), one that fits none", f.oneWrong(), 15);
        f.ask(0, 1);
        due("oneWrong()", f.oneWrong(), 12);
        f.ask(1, 0);
        due("oneWrong()", f.oneWrong(), 4);
        f.ask(1, 1);
        due("oneWrong(), two wrong", f.oneWrong(), 0);
        QuestionFair full = of(2, 0, 1, 0);
        for (int i = 0; i < 7; i++) {
            full.ask(0, 1);
        }
        due("ask(0, 0)", full.ask(0, 0), 0);
        due("oneWrong(), the 8th is", full.oneWrong(), 2);

        says("KNOWS: a stranger asked some QUESTIONS (a set of them, each once) in CASE x, and now knows just CASES of a "
                + "set s (bits): how many such sets there are; QUESTIONS that are in all of them (bits; none: no set).");
        knowsIs(new QuestionFair(), 0, 255, 1, 0);
        knowsIs(new QuestionFair(), 7, 255, 1, 0);
        knowsIs(new QuestionFair(), 0, 1, 0, -1);
        knowsIs(of(1), 0, 1, 1, 0);
        knowsIs(of(16), 15, 65535, 1, 0);
        QuestionFair seven = of(2, 0, 0, 0, 0, 0, 0, 0, 0, 0, 0, 0, 0, 0, 0, 0, 0, 0, 0, 0, 0, 0);
        knowsIs(seven, 1, 3, 128, 0);
        knowsIs(seven, 1, 2, 0, -1);
        QuestionFair rungs = ladder(8, 1);
        knowsIs(rungs, 0, 255, 1, 0);
        knowsIs(rungs, 0, 1, 64, 1);
        knowsIs(rungs, 3, 8, 32, 4 + 8);
        knowsIs(rungs, 7, 128, 64, 64);
        knowsIs(rungs, 7, 255 - 1, 1, 1);
        knowsIs(rungs, 7, 255 - 2, 0, -1);
        rungs.ask(0, 0);
        knowsIs(rungs, 3, 8, 32, 4 + 8);

        says("PARTED: how many pairs of CASES LEFT a QUESTION parts; how many some QUESTION parts (each pair once).");
        due("parted(-1), no QUESTIONS", new QuestionFair().parted(-1), 0);
        QuestionFair g = of(16, 0, 8, 0, 2, 2, 0, 0, 4, 0, 0, 12, 0, 0, 0, 0);
        due("parted(0)", g.parted(0), 64);
        due("parted(1)", g.parted(1), 96);
        due("parted(4)", g.parted(4), 0);
        due("parted(-1), every pair once", g.parted(-1), 120);
        g.ask(0, 0);
        due("parted(0), LEFT", g.parted(0), 0);
        due("parted(-1), LEFT", g.parted(-1), 28);
        g.ask(0, 1);
        due("parted(1), nothing LEFT", g.parted(1), 0);
        due("parted(-1), nothing LEFT", g.parted(-1), 0);
    }

    private static void knowsIs(QuestionFair f, int x, int s, int sets, int inAll) {
        due("knows(" + x + ", " + s + ", 0)", f.knows(x, s, 0), sets);
        due("knows(" + x + ", " + s + ", 1)", f.knows(x, s, 1), inAll);
    }

    // ---- part 2: rows, stalls

    private static void rows() {
        says("ROW: QUESTIONS asked one behind the other in a row (a number of figures 1 to 7, the first one first, up to 7 "
                + "figures: the figure less 1 is the QUESTION; 0: none),");
        QuestionFair f = of(3, 0, 1, 7, 0, 2, 4);
        rowIs(f, 12, 29, 3);
        rowIs(f, 21, 26, 3);
        rowIs(f, 0, 0, 1);
        for (int row : new int[] {-1, 3, 7, 8, 9, 10, 20, 102, 13, 31, 22222222, 12121212}) {
            due("row(" + row + ")", f.row(row), -2);
        }
        QuestionFair full = ladder(8, 1);
        for (int row : new int[] {1, 7, 11, 77, 1111111, 7777777, 1234567, 7654321}) {
            due("row(" + row + ")", full.row(row), 1);
        }
        for (int row : new int[] {8, 9, 18, 81, 70, 7077777, 7777770, 7777778, 8777777, 11111111, 77777777}) {
            due("row(" + row + ")", full.row(row), -2);
        }
        QuestionFair six = ladder(7, 1);
        for (int row : new int[] {1111111, 6666666, 6111111, 1111116, 111111}) {
            due("row(" + row + "), six QUESTIONS", six.row(row), 1);
        }
        for (int row : new int[] {7, 17, 71, 7111111, 1711111, 1117111, 1111117, 711111}) {
            due("row(" + row + "), six QUESTIONS", six.row(row), -2);
        }
        says("till just one CASE is left, or the row ends: PENCE in the mean, by WEIGHTS of CASES LEFT: THE FRACTION; NO: "
                + "nothing LEFT.");
        rowIs(f, 2222222, 20, 1);
        rowIs(f, 1222222, 7 + 11 + 11, 3);
        rowIs(f, 2, 4, 1);
        f.weigh(0, 9);
        rowIs(f, 12, 85, 11);
        f.weigh(2, 9);
        rowIs(f, 12, 9 * 7 + 10 * 11, 19);
        f.ask(0, 1);
        rowIs(f, 12, 11, 1);
        rowIs(f, 2112, 4, 1);
        f.ask(1, 1);
        rowIs(f, 1111111, 0, 1);
        rowIs(of(1, 0, 0, 99), 1, 0, 1);
        QuestionFair light = of(2, 0, 1, 99);
        rowIs(light, 1, 99, 1);
        light.ask(0, 1);
        rowIs(light, 1, 0, 1);
        f.ask(1, 0);
        due("row(12), nothing LEFT", f.row(12), -3);
        due("row(0), nothing LEFT", f.row(0), -3);
        fractionIs(f, 0, 1);
        QuestionFair dear = of(16, 0, 0, 99);
        for (int x = 0; x < 16; x++) {
            dear.weigh(x, 9);
        }
        rowIs(dear, 1111111, 693, 1);

        says("BEST ROW: of all rows of all QUESTIONS, each once, that of least such PENCE; of like ones the least number: "
                + "told so.");
        bestRowIs(new QuestionFair(), 0, 0, 1);
        bestRowIs(of(1, 0, 0, 9, 0, 0, 1), 12, 0, 1);
        bestRowIs(of(3, 0, 1, 7, 0, 2, 4), 21, 26, 3);
        bestRowIs(of(3, 0, 1, 4, 0, 2, 4), 12, 20, 3);
        bestRowIs(of(2, 0, 0, 9, 0, 1, 3), 21, 3, 1);
        bestRowIs(of(2, 0, 0, 9, 0, 0, 3), 12, 12, 1);
        bestRowIs(of(2, 0, 0, 0, 0, 0, 1, 0, 0, 1, 0, 0, 1, 0, 0, 1, 0, 0, 1, 0, 1, 9), 1723456, 9, 1);
        QuestionFair fewer = ladder(8, 9);
        fewer.bestRow();
        fewer.fair(3);
        fewer.question(0, 1, 7);
        fewer.question(0, 2, 4);
        bestRowIs(fewer, 21, 26, 3);
        fewer.ask(0, 0);
        bestRowIs(fewer, 12, 0, 1);
        bestRowOfAll();
    }

    private static void rowIs(QuestionFair f, int row, long above, long below) {
        due("row(" + row + ")", f.row(row), 1);
        fractionIs(f, above, below);
    }

    private static void bestRowIs(QuestionFair f, int row, long above, long below) {
        due("bestRow()", f.bestRow(), row);
        fractionIs(f, above, below);
    }

    /** Beside every row of four QUESTIONS, as row itself tells them. */
    private static void bestRowOfAll() {
        QuestionFair f = of(7, 4, 5, 30, 0, 3, 8, 5, 2, 9, 2, 0, 8);
        f.weigh(1, 5);
        f.weigh(6, 3);
        int found = 0;
        long above = 0;
        long below = 1;
        for (int row = 1234; row <= 4321; row++) {
            boolean eachOnce = true;
            for (char figure = '1'; figure <= '4'; figure++) {
                eachOnce &= ("" + row).indexOf(figure) >= 0;
            }
            if (eachOnce) {
                f.row(row);
                if (found == 0 || f.part(0) * below < above * f.part(1)) {
                    found = row;
                    above = f.part(0);
                    below = f.part(1);
                }
            }
        }
        bestRowIs(f, found, above, below);
    }

    private static void haggles() {
        says("HAGGLE for a QUESTION: the most PENCE (0 .. 99) it may cost so that it is still in AT ONCE (all others as "
                + "told); none: in none.");
        due("haggle(0), nothing else would do", of(2, 0, 1, 5).haggle(0), 99);
        due("haggle(0), it costs 99", of(2, 0, 1, 99).haggle(0), 99);
        due("haggle(0), it costs nothing", of(2, 0, 1, 0).haggle(0), 99);
        due("haggle(0), it comes first", of(2, 0, 1, 5, 1, 1, 7).haggle(0), 7);
        due("haggle(1), it comes behind", of(2, 0, 1, 5, 1, 1, 7).haggle(1), 4);
        due("haggle(0), least", of(2, 0, 1, 5, 1, 1, 0).haggle(0), 0);
        due("haggle(1), the other is for nothing", of(2, 0, 1, 0, 1, 1, 7).haggle(1), -1);
        due("haggle(1), the other is for one", of(2, 0, 1, 1, 1, 1, 7).haggle(1), 0);
        due("haggle(0), the other costs 99", of(2, 0, 1, 5, 1, 1, 99).haggle(0), 99);
        due("haggle(1), the other costs 99", of(2, 0, 1, 99, 1, 1, 5).haggle(1), 98);
        due("haggle(3), three others for 99 each", of(4, 0, 1, 99, 0, 2, 99, 0, 3, 99, 2, 2, 9).haggle(3), 99);
        due("haggle(0), it parts nothing", of(2, 0, 0, 0, 0, 1, 5).haggle(0), -1);
        due("haggle(0), it can not be known", of(3, 0, 1, 0).haggle(0), -1);
        QuestionFair f = of(2, 0, 1, 5);
        f.ask(0, 0);
        due("haggle(0), it is known", f.haggle(0), -1);
        f.ask(0, 1);
        due("haggle(0), nothing LEFT", f.haggle(0), -1);
        refusals(f, 0, 0, 0);
        for (int q = 0; q < 4; q++) {
            haggledAgainstAtOnce(q, of(5, 4, 2, 33, 0, 3, 20, 2, 1, 10, 5, 1, 8));
            haggledAgainstAtOnce(q, of(4, 0, 1, 5, 0, 2, 5, 0, 3, 5, 2, 2, 15));
        }
    }

    /** Up to what haggle tells AT ONCE has the QUESTION, and beyond it has not. */
    private static void haggledAgainstAtOnce(int q, QuestionFair f) {
        int most = f.haggle(q);
        for (int pence = 0; pence <= 99; pence++) {
            f.price(q, pence);
            due("AT ONCE has " + q + " for " + pence, f.atOnce(0) >> q & 1, pence <= most ? 1 : 0);
        }
        due("haggle(" + q + "), whatever it costs now", f.haggle(q), most);
    }

    private static void stalls() {
        says("STALLS by a SEED (0 .. 999999), m (0 .. 60): X is SEED at first;");
        QuestionFair f = of(5, 0, 3, 7, 2, 1, 11, 4, 2, 20);
        Seen seen = new Seen(f);
        for (int seed : new int[] {0, 1, 777777, 999998, 999999}) {
            for (int m : new int[] {0, 1, 2, 59, 60}) {
                due("stalls(" + seed + ", " + m + ")", f.stalls(seed, m), seen.stalls(seed, m));
            }
        }
        due("stalls(-1, 0)", f.stalls(-1, 0), -2);
        due("stalls(1000000, 0)", f.stalls(1000000, 0), -2);
        due("stalls(0, -1)", f.stalls(0, -1), -2);
        due("stalls(0, 61)", f.stalls(0, 61), -2);
        says("each time the true one is drawn of those LEFT (X becomes X times 1103515245 and 12345, by 2147483648 what is "
                + "left over; X by 65536 (cut), by how many are LEFT left over, is its place);");
        f.ask(0, 0);
        due("stalls(5, 60), of those LEFT", f.stalls(5, 60), new Seen(f).stalls(5, 60));
        f.undo();
        f.ask(0, 1);
        due("stalls(5, 60), of those LEFT", f.stalls(5, 60), new Seen(f).stalls(5, 60));
        QuestionFair forged = of(16, 5, 9, 1, 5, 3, 50, 4, 7, 2);
        Seen forgedSeen = new Seen(forged);
        for (int seed = 10; seed < 40; seed++) {
            due("stalls(" + seed + ", 3)", forged.stalls(seed, 3), forgedSeen.stalls(seed, 3));
        }
        says("then QUESTIONS are drawn likewise (by how many there are), paid and asked, till it is known, 12 at most: "
                + "PENCE of all.");
        due("12 at most", of(2, 0, 0, 1).stalls(3, 1), 12);
        due("12 at most, each time", of(2, 0, 0, 99).stalls(3, 60), 12 * 60 * 99);
        due("till it is known", of(2, 0, 1, 99).stalls(3, 60), 60 * 99);
        due("it is known already", of(1, 0, 0, 99).stalls(3, 60), 0);
        says("NO: nothing LEFT, no QUESTIONS.");
        due("stalls(0, 0), no QUESTIONS", new QuestionFair().stalls(0, 0), -3);
        due("stalls(0, 60), no QUESTIONS, one CASE", of(1).stalls(0, 60), -3);
        QuestionFair g = of(1, 0, 0, 1);
        g.ask(0, 0);
        due("stalls(0, 0), nothing LEFT", g.stalls(0, 0), -3);
        due("stalls(999999, 60), nothing LEFT", g.stalls(999999, 60), -3);
        due("stalls(1000000, 60), nothing LEFT", g.stalls(1000000, 60), -2);
        refusals(g, 1, 2, 0);
    }

    /** What is LEFT of a fair, its ANSWERS and PENCE: STALLS again from these, in numbers without an end. */
    private static final class Seen {
        final List<Integer> left = new ArrayList<>();
        final int[][] answers;
        final int[] pence;

        Seen(QuestionFair f) {
            int bits = f.left();
            answers = new int[f.count(1)][16];
            pence = new int[answers.length];
            for (int x = 0; x < 16; x++) {
                if ((bits >> x & 1) == 1) {
                    left.add(x);
                }
            }
            for (int q = 0; q < answers.length; q++) {
                pence[q] = f.of(q, 2);
                for (int x : left) {
                    answers[q][x] = f.answer(q, x);
                }
            }
        }

        /** ONE BY ONE of some CASES by trying all: PENCE, first, how many. */
        int[] oneByOne(List<Integer> some) {
            if (some.size() < 2) {
                return new int[] {0, -1, 0};
            }
            int[] least = {-1, -1, -1};
            for (int q = 0; q < pence.length; q++) {
                int[] worst = worstBehind(q, some);
                if (worst[0] >= 0 && (least[1] < 0 || worst[0] < least[0])) {
                    least = new int[] {worst[0], q, worst[1]};
                }
            }
            return least;
        }

        private int[] worstBehind(int q, List<Integer> some) {
            int[] worst = {0, 0};
            for (int said = 0; said < 16; said++) {
                List<Integer> part = new ArrayList<>();
                for (int x : some) {
                    if (answers[q][x] == said) {
                        part.add(x);
                    }
                }
                int[] behind = part.size() == some.size() ? new int[] {-1, -1, -1} : oneByOne(part);
                if (behind[0] < 0) {
                    return new int[] {-1, -1};
                }
                worst[0] = Math.max(worst[0], behind[0]);
                worst[1] = Math.max(worst[1], behind[2]);
            }
            return new int[] {pence[q] + worst[0], 1 + worst[1]};
        }

        int stalls(int seed, int m) {
            BigInteger x = BigInteger.valueOf(seed);
            int paid = 0;
            for (int time = 0; time < m; time++) {
                x = nextX(x);
                int truth = left.get(drawn(x, left.size()));
                List<Integer> still = new ArrayList<>(left);
                for (int turn = 0; turn < 12 && still.size() > 1; turn++) {
                    x = nextX(x);
                    int q = drawn(x, answers.length);
                    paid += pence[q];
                    still.removeIf(one -> answers[q][one] != answers[q][truth]);
                }
            }
            return paid;
        }
    }

    private static BigInteger nextX(BigInteger x) {
        return x.multiply(BigInteger.valueOf(1103515245)).add(BigInteger.valueOf(12345)).mod(BigInteger.ONE.shiftLeft(31));
    }

    private static int drawn(BigInteger x, int howMany) {
        return x.divide(BigInteger.valueOf(65536)).mod(BigInteger.valueOf(howMany)).intValue();
    }

    // ---- part 2: undone, images, status

    private static void undone() {
        says("UNDO: ASKED as ahead of the last QUESTION ASKED, forgotten (8 at most; behind a QUESTION that comes none may "
                + "be).");
        QuestionFair f = of(4, 0, 2, 1, 0, 3, 1);
        due("undo(), nothing to undo", f.undo(), -3);
        f.ask(0, 1);
        f.ask(1, 0);
        f.forget();
        undoneIs(f, 2, 4);
        undoneIs(f, 1, 12);
        undoneIs(f, 0, 15);
        due("undo(), it is no step itself", f.undo(), -3);
        for (int i = 0; i < 8; i++) {
            f.ask(i % 2, 0);
        }
        due("count(4), full", f.count(4), 8);
        for (int i = 7; i >= 0; i--) {
            due("undo()", f.undo(), i);
        }
        due("undo()", f.undo(), -3);
        for (int i = 0; i < 8; i++) {
            f.ask(i % 2, i % 3);
        }
        f.forget();
        due("count(4), a 9th step", f.count(4), 8);
        due("undo()", f.undo(), 8);
        due("forget()", f.forget(), 7);
        due("undo() again", f.undo(), 8);
        due("count(4)", f.count(4), 7);
        for (int i = 7; i >= 1; i--) {
            due("undo()", f.undo(), i);
        }
        due("undo(), the first step is too long ago", f.undo(), -3);
        due("count(2)", f.count(2), 1);
        due("left()", f.left(), 3);
        for (int i = 1; i < 8; i++) {
            f.ask(i % 2, i % 3);
        }
        due("count(4)", f.count(4), 7);
        f.forget();
        f.undo();
        f.ask(0, 0);
        due("a refused one is no step", f.count(4), 7);
        due("digest(), in the old order", f.digest(), digestOf(4, 2, 8, 0, 7, 0, 1, 1, 1, 1, 0, 2, 1, 0, 3, 1,
                0, 0, 1, 1, 0, 2, 1, 0, 0, 1, 1, 2, 0, 0, 1, 1, 0, 1));
        refusals(f, 0, 4, 1);
        undoneWithForgotten();
        undoneBehindOthers();
    }

    private static void undoneIs(QuestionFair f, int asked, int left) {
        due("undo()", f.undo(), asked);
        due("left() behind it", f.left(), left);
    }

    private static void undoneWithForgotten() {
        QuestionFair f = of(4, 0, 2, 1, 0, 3, 1);
        for (int i = 0; i < 4; i++) {
            f.ask(i % 2, 1);
            f.forget();
        }
        f.ask(0, 0);
        due("count(4)", f.count(4), 8);
        undoneIs(f, 0, 15);
        undoneIs(f, 1, 8);
        undoneIs(f, 0, 15);
        undoneIs(f, 1, 12);
        undoneIs(f, 0, 15);
        undoneIs(f, 1, 8);
        undoneIs(f, 0, 15);
        undoneIs(f, 1, 12);
        due("undo()", f.undo(), -3);
    }

    private static void undoneBehindOthers() {
        QuestionFair f = of(4, 0, 2, 1);
        f.ask(0, 1);
        f.price(0, 9);
        f.weigh(0, 9);
        f.question(6, 0, 0);
        f.type('x');
        f.read();
        f.row(1);
        f.image(0);
        due("count(4), behind all these", f.count(4), 1);
        f.question(0, 3, 1);
        due("count(4), behind a QUESTION", f.count(4), 0);
        due("undo()", f.undo(), -3);
        due("count(2)", f.count(2), 1);
        f.ask(1, 1);
        undoneIs(f, 1, 12);
        due("undo()", f.undo(), -3);
        f.ask(1, 1);
        f.fair(3);
        due("undo(), behind fair", f.undo(), -3);
    }

    private static void images() {
        says("IMAGES 0, 1 keep all but them, THE TEXT, THE FRACTION and STATUS; what may be undone they keep; it goes on "
                + "from one.");
        QuestionFair f = of(3, 0, 1, 7, 0, 2, 4);
        due("from(0), no IMAGE kept", f.from(0), -3);
        due("from(1), no IMAGE kept", f.from(1), -3);
        f.weigh(2, 9);
        f.ask(0, 1);
        f.ask(1, 0);
        f.forget();
        due("image(0)", f.image(0), 1);
        due("from(1), the other one", f.from(1), -3);
        long kept = f.digest();
        f.fair(16);
        f.question(4, 3, 2);
        due("image(1)", f.image(1), 1);
        long other = f.digest();
        f.ask(0, 0);
        f.price(0, 1);
        f.weigh(15, 2);
        due("from(0)", f.from(0), 1);
        due("digest()", f.digest(), kept);
        due("undo(), what may be undone", f.undo(), 2);
        due("undo()", f.undo(), 1);
        f.question(5, 5, 5);
        f.weigh(0, 3);
        due("from(1), kept beside it", f.from(1), 1);
        due("digest()", f.digest(), other);
        due("from(0), not changed since", f.from(0), 1);
        due("digest()", f.digest(), kept);
        f.type('z');
        rowIs(f, 12, 7, 1);
        due("from(0)", f.from(0), 1);
        due("count(5), THE TEXT goes on", f.count(5), 1);
        fractionIs(f, 7, 1);
        imagesOfStepsAndParts();
        due("image(0), over the old one", f.image(0), 1);
        f.forget();
        due("image(0), over the old one", f.image(0), 1);
        f.fair(1);
        due("from(0)", f.from(0), 1);
        due("count(2)", f.count(2), 0);
        due("count(4)", f.count(4), 4);
        refusals(f, 0, 3, 0);
    }

    private static void imagesOfStepsAndParts() {
        QuestionFair f = of(4, 0, 2, 1, 0, 3, 1);
        f.ask(0, 1);
        f.forget();
        f.ask(1, 1);
        f.image(1);
        f.fair(9);
        f.question(4, 3, 9);
        f.question(4, 3, 8);
        f.image(0);
        for (int i = 0; i < 8; i++) {
            f.ask(0, 0);
        }
        f.from(1);
        due("left()", f.left(), 8);
        partingIs(f, new int[] {1, 1}, 0, 0);
        undoneIs(f, 0, 15);
        partingIs(f, new int[] {2, 2}, -1, -1);
        undoneIs(f, 1, 12);
        undoneIs(f, 0, 15);
        due("undo()", f.undo(), -3);
        f.from(0);
        due("undo(), the other one keeps none", f.undo(), -3);
        partingIs(f, new int[] {8, 8}, -1, -1);
        imageOfTheMost();
    }

    /** 16 CASES and 7 QUESTIONS: every one of them parts as before, up to the last CASE. */
    private static void imageOfTheMost() {
        QuestionFair f = of(16, 4, 7, 9, 4, 15, 9, 2, 2, 9, 5, 14, 9, 3, 3, 9, 0, 8, 9, 5, 0, 9);
        int[] parts = {10, 6, 4, 3, 3, 2, 2};
        partingIs(f, parts, 5, 18);
        f.image(0);
        f.fair(1);
        for (int q = 0; q < 7; q++) {
            f.question(0, 0, 0);
        }
        f.from(0);
        partingIs(f, parts, 5, 18);
        typeAll(f, "fair 1;" + "question0 0 0;".repeat(7));
        f.read();
        partingIs(f, new int[] {1, 1, 1, 1, 1, 1, 1}, 0, 0);
    }

    private static void statusAndFraction() {
        says("STATUS: how many calls were refused as BAD, NO, FULL (each answer told so below is such a one).");
        QuestionFair f = new QuestionFair();
        refusals(f, 0, 0, 0);
        f.fair(0);
        refusals(f, 1, 0, 0);
        f.undo();
        refusals(f, 1, 1, 0);
        for (int i = 0; i < 8; i++) {
            f.question(0, 0, 0);
        }
        refusals(f, 1, 1, 1);
        f.fair(3);
        f.image(0);
        f.from(0);
        f.clear();
        refusals(f, 1, 1, 1);

        says("THE FRACTION is 0 by 1 at first; lowest terms, below above 0.");
        QuestionFair g = of(4, 0, 2, 0, 0, 3, 6);
        fractionIs(g, 0, 1);
        g.ask(0, 1);
        rowIs(g, 2, 6, 1);
        g.undo();
        rowIs(g, 1, 0, 1);
        rowIs(g, 22, 21, 2);
        g.weigh(0, 9);
        rowIs(g, 22, 23, 2);
        for (int x = 0; x < 4; x++) {
            g.weigh(x, 9);
        }
        rowIs(g, 22, 21, 2);
        due("row(3), refused", g.row(3), -2);
        fractionIs(g, 21, 2);
        rowIs(g, 0, 0, 1);

        says("Refused, changing nothing but STATUS, the first of: BAD -2 a number is not as told; NO -3 as told; FULL -4 "
                + "(where others are told they count as these).");
        QuestionFair h = of(1);
        for (int i = 0; i < 7; i++) {
            h.question(0, 0, 0);
        }
        for (int i = 0; i < 8; i++) {
            h.ask(0, 0);
        }
        typeAll(h, blanks(150));
        due("question(6, 0, 0), BAD ahead of FULL", h.question(6, 0, 0), -2);
        due("ask(7, 0), BAD ahead of FULL", h.ask(7, 0), -2);
        due("type(128), BAD ahead of FULL", h.type(128), -2);
        due("row(8), BAD ahead of NO", h.row(8), -2);
        due("stalls(0, 61), BAD ahead of NO", h.stalls(0, 61), -2);
        due("from(2), BAD ahead of NO", h.from(2), -2);
        refusals(h, 6, 0, 0);
        due("same(-2)", h.same(-2), -10);
        due("knows(1, 1, 0)", h.knows(1, 1, 0), -10);
        due("parted(7)", h.parted(7), -10);
        due("status(3)", h.status(3), -1);
        refusals(h, 10, 0, 0);
    }

    // ---- the promises, each in its own words

    private static void promisesOfAFair() {
        says("`QuestionFair()`: As told; no QUESTIONS.");
        QuestionFair f = new QuestionFair();
        due("digest()", f.digest(), digestOf(8, 0, 0, 8, 0, 0, 1, 1, 1, 1, 1, 1, 1, 1, 0, 1));
        due("from(0)", f.from(0), -3);
        due("from(1)", f.from(1), -3);
        refusals(f, 0, 2, 0);

        says("`int fair(int n)`: n CASES, all else as at first (but for IMAGES, THE TEXT, THE FRACTION, STATUS): how many "
                + "QUESTIONS there were. BAD.");
        QuestionFair g = ladder(8, 3);
        g.weigh(7, 9);
        g.ask(0, 1);
        g.type('a');
        g.image(0);
        rowIs(g, 7, 3, 1);
        due("fair(17)", g.fair(17), -2);
        due("fair(8), 7 QUESTIONS", g.fair(8), 7);
        due("digest()", g.digest(), digestOf(8, 0, 0, 8, 0, 1, 1, 1, 1, 1, 1, 1, 1, 1, 3, 1));
        due("fair(8), none", g.fair(8), 0);
        refusals(g, 1, 0, 0);
        due("from(0)", g.from(0), 1);
        due("count(1)", g.count(1), 7);

        says("`int weigh(int x, int weight)`: A WEIGHT: what it was. BAD.");
        QuestionFair h = of(2);
        due("weigh(0, 9)", h.weigh(0, 9), 1);
        due("weigh(0, 10)", h.weigh(0, 10), -2);
        due("weigh(0, 0)", h.weigh(0, 0), -2);
        due("weigh(2, 1)", h.weigh(2, 1), -2);
        due("weigh(-1, 1)", h.weigh(-1, 1), -2);
        due("weigh(0, 1)", h.weigh(0, 1), 9);
        due("weigh(1, 1)", h.weigh(1, 1), 1);

        says("`int question(int kind, int a, int pence)`: A QUESTION: its number. BAD; FULL: 7.");
        due("question(5, 15, 99)", h.question(5, 15, 99), 0);
        due("question(0, 0, 0)", h.question(0, 0, 0), 1);
        for (int q = 2; q < 7; q++) {
            due("question " + q, h.question(1, 1, 1), q);
        }
        due("question(5, 15, 100)", h.question(5, 15, 100), -2);
        due("question(5, 15, 99)", h.question(5, 15, 99), -4);

        says("`int price(int q, int pence)`: PENCE of a QUESTION: what they were. BAD.");
        due("price(0, 0)", h.price(0, 0), 99);
        due("price(0, 99)", h.price(0, 99), 0);
        due("price(6, 98)", h.price(6, 98), 1);
        due("price(0, 100)", h.price(0, 100), -2);
        due("price(0, -1)", h.price(0, -1), -2);
        due("price(7, 0)", h.price(7, 0), -2);
        due("price(-1, 0)", h.price(-1, 0), -2);
        due("of(0, 2)", h.of(0, 2), 99);
        due("price(0, 0), no QUESTIONS", of(2).price(0, 0), -2);
    }

    private static void promisesOfATextAndAsked() {
        says("`int type(int c)`: A byte (0 .. 127) comes behind THE TEXT: how many it has. BAD; FULL.");
        QuestionFair f = new QuestionFair();
        for (int i = 1; i <= 150; i++) {
            due("type", f.type(i % 2 == 0 ? 0 : 127), i);
        }
        due("type(127)", f.type(127), -4);
        due("type(-1)", f.type(-1), -2);
        due("type(128)", f.type(128), -2);
        refusals(f, 2, 0, 1);

        says("`int clear()`: THE TEXT is empty: how many it had.");
        due("clear()", f.clear(), 150);
        due("clear()", f.clear(), 0);
        due("count(5)", f.count(5), 0);
        due("type(0)", f.type(0), 1);
        due("clear()", f.clear(), 1);

        says("`int read()`: THE FAIR is read: how many ITEMS. -10 less the FAULT: all stays.");
        due("read(), an empty one", f.read(), -10);
        typeAll(f, "fair 2;case 1 9;question 0 0 0;");
        due("read()", f.read(), 3);
        f.ask(0, 1);
        typeAll(f, "fair 3;question 0 0 0;case 3 1;");
        long before = f.digest();
        due("read(), a FAULT far behind", f.read(), -10 - 27);
        due("digest()", f.digest(), before);
        due("undo()", f.undo(), 0);
        refusals(f, 2, 0, 1);

        says("`int ask(int q, int answer)`: A QUESTION is ASKED, with this ANSWER: LEFT then (bits). BAD; FULL: 8 ASKED.");
        due("ask(0, 1)", f.ask(0, 1), 3);
        due("ask(1, 1)", f.ask(1, 1), -2);
        due("ask(-1, 1)", f.ask(-1, 1), -2);
        due("ask(0, 16)", f.ask(0, 16), -2);
        due("ask(0, -1)", f.ask(0, -1), -2);
        due("ask(0, 15)", f.ask(0, 15), 0);
        for (int i = 3; i <= 8; i++) {
            due("ask(0, 0)", f.ask(0, 0), 0);
        }
        due("ask(0, 0)", f.ask(0, 0), -4);
        refusals(f, 6, 0, 2);

        says("`int forget()`: The first of ASKED is forgotten: how many there are. NO: none.");
        QuestionFair g = of(4, 0, 1, 1, 0, 2, 1, 0, 3, 1);
        due("forget(), nothing ASKED", g.forget(), -3);
        g.ask(0, 1);
        g.ask(1, 1);
        g.ask(2, 0);
        due("forget()", g.forget(), 2);
        due("left()", g.left(), 4);
        due("forget()", g.forget(), 1);
        due("left()", g.left(), 7);
        due("forget()", g.forget(), 0);
        due("left()", g.left(), 15);
        due("forget()", g.forget(), -3);

        says("`int undo()`: UNDO: how many ASKED. NO: none may be.");
        due("undo()", g.undo(), 1);
        due("left()", g.left(), 7);
        g.undo();
        g.undo();
        due("undo(), now what was ASKED", g.undo(), 2);
        g.undo();
        due("undo()", g.undo(), 0);
        due("undo()", g.undo(), -3);
        refusals(g, 0, 3, 0);
    }

    private static void promisesOfQuestions() {
        says("`int of(int q, int what)`: Of a QUESTION: KIND (0), a (1), PENCE (2). BAD.");
        QuestionFair f = of(3, 5, 15, 99, 4, 0, 0);
        int[][] dues = {{5, 15, 99}, {4, 0, 0}};
        for (int q = 0; q < 2; q++) {
            for (int what = 0; what < 3; what++) {
                due("of(" + q + ", " + what + ")", f.of(q, what), dues[q][what]);
            }
        }
        due("of(0, 3)", f.of(0, 3), -2);
        due("of(0, -1)", f.of(0, -1), -2);
        due("of(2, 0)", f.of(2, 0), -2);
        due("of(-1, 0)", f.of(-1, 0), -2);

        says("`int answer(int q, int x)`: The ANSWER of a QUESTION in a CASE. BAD.");
        due("answer(1, 0)", f.answer(1, 0), 5);
        due("answer(1, 2)", f.answer(1, 2), 5);
        due("answer(1, 3)", f.answer(1, 3), -2);
        due("answer(1, -1)", f.answer(1, -1), -2);
        due("answer(2, 0)", f.answer(2, 0), -2);
        due("answer(-1, 0)", f.answer(-1, 0), -2);
        f.ask(1, 6);
        due("answer(1, 0), a CASE that is not LEFT", f.answer(1, 0), 5);

        says("`int left()`: LEFT, as bits.");
        due("left()", f.left(), 2);
        f.ask(0, 0);
        due("left()", f.left(), 0);
        refusals(f, 8, 0, 0);

        says("`int cuts(int q, int what)`: CUTS: greatest part (0), parts (1), lightest part's WEIGHT (2). BAD.");
        QuestionFair g = of(4, 0, 1, 1);
        g.weigh(0, 4);
        cutsAre(g, new int[][] {{3, 2, 3}});
        due("cuts(0, 3)", g.cuts(0, 3), -2);
        due("cuts(0, -1)", g.cuts(0, -1), -2);
        due("cuts(1, 0)", g.cuts(1, 0), -2);
        due("cuts(-1, 0)", g.cuts(-1, 0), -2);

        says("`int empty()`: EMPTY, as bits.");
        due("empty()", g.empty(), 0);
        g.ask(0, 1);
        due("empty()", g.empty(), 1);

        says("`int same(int k)`: SAME: how many (k = NONE), the k-th. -5: not so many. BAD: -10.");
        g.question(1, 1, 1);
        due("same(-1)", g.same(-1), 1);
        due("same(0)", g.same(0), 1);
        due("same(1)", g.same(1), -5);
        due("same(MAX_VALUE)", g.same(Integer.MAX_VALUE), -5);
        due("same(-2)", g.same(-2), -10);
        due("same(MIN_VALUE)", g.same(Integer.MIN_VALUE), -10);
        refusals(g, 6, 0, 0);

        says("`int best()`: BEST. NONE.");
        due("best()", g.best(), 0);
        g.price(1, 0);
        due("best()", g.best(), 1);
        g.ask(0, 0);
        due("best()", g.best(), -1);
    }

    private static void promisesOfWhatItCuts() {
        says("`int atOnce(int what)`: AT ONCE: which (0; bits), PENCE (1). NONE. BAD.");
        QuestionFair f = ladder(3, 9);
        atOnceIs(f, 3, 18);
        due("atOnce(2)", f.atOnce(2), -2);
        due("atOnce(-1)", f.atOnce(-1), -2);
        atOnceIs(of(2), -1, -1);

        says("`int oneByOne(int what)`: ONE BY ONE: PENCE (0), first (1; NONE), how many (2). NONE. BAD.");
        oneByOneIs(f, 18, 0, 2);
        due("oneByOne(3)", f.oneByOne(3), -2);
        due("oneByOne(-1)", f.oneByOne(-1), -2);
        oneByOneIs(of(2), -1, -1, -1);
        refusals(f, 4, 0, 0);

        says("`int oneWrong()`: ONE WRONG, as bits.");
        due("oneWrong()", f.oneWrong(), 7);
        f.ask(0, 1);
        f.ask(0, 1);
        due("oneWrong()", f.oneWrong(), 6);

        says("`int knows(int x, int s, int what)`: KNOWS: how many sets (0), QUESTIONS in all (1; bits; NONE). BAD: -10: x is "
                + "not in s, too.");
        QuestionFair g = ladder(3, 9);
        knowsIs(g, 0, 1, 2, 1);
        knowsIs(g, 2, 7, 1, 0);
        knowsIs(g, 1, 2, 1, 3);
        knowsIs(g, 0, 5, 0, -1);
        for (int s : new int[] {-1, 0, 1, 5, 8, 10, 1 << 30}) {
            due("knows(1, " + s + ", 0)", g.knows(1, s, 0), -10);
        }
        due("knows(-1, 7, 0)", g.knows(-1, 7, 0), -10);
        due("knows(3, 7, 0)", g.knows(3, 7, 0), -10);
        due("knows(3, 15, 0)", g.knows(3, 15, 0), -10);
        due("knows(0, 7, -1)", g.knows(0, 7, -1), -10);
        due("knows(0, 7, 2)", g.knows(0, 7, 2), -10);
        QuestionFair wide = of(16);
        knowsIs(wide, 0, 65535, 1, 0);
        due("knows(0, 65536, 0)", wide.knows(0, 65536, 0), -10);
        due("knows(0, 65537, 0)", wide.knows(0, 65537, 0), -10);
        due("knows(16, 65535, 0)", wide.knows(16, 65535, 0), -10);

        says("`int parted(int q)`: PARTED: by a QUESTION, or all together (q = NONE). BAD: -10.");
        due("parted(0)", g.parted(0), 2);
        due("parted(1)", g.parted(1), 2);
        due("parted(-1)", g.parted(-1), 3);
        due("parted(2)", g.parted(2), -10);
        due("parted(-2)", g.parted(-2), -10);
        refusals(g, 14, 0, 0);
    }

    private static void promisesOfRows() {
        says("`int row(int row)`: ROW is THE FRACTION: 1. BAD: a QUESTION that is not there, too; NO.");
        QuestionFair f = ladder(3, 9);
        rowIs(f, 12, 15, 1);
        due("row(3)", f.row(3), -2);
        due("row(13)", f.row(13), -2);
        due("row(-1)", f.row(-1), -2);
        due("row(11111111)", f.row(11111111), -2);
        fractionIs(f, 15, 1);
        due("row(1), no QUESTIONS", of(1).row(1), -2);

        says("`int bestRow()`: BEST ROW; its PENCE in the mean are THE FRACTION. NO: nothing LEFT.");
        f.price(0, 10);
        bestRowIs(f, 21, 47, 3);
        f.ask(0, 2);
        due("bestRow(), nothing LEFT", f.bestRow(), -3);
        due("row(1), nothing LEFT", f.row(1), -3);
        fractionIs(f, 47, 3);
        refusals(f, 4, 2, 0);

        says("`int haggle(int q)`: HAGGLE. NONE. BAD.");
        QuestionFair g = of(2, 0, 1, 9, 1, 1, 9, 0, 0, 9);
        due("haggle(0)", g.haggle(0), 9);
        due("haggle(1)", g.haggle(1), 8);
        due("haggle(2)", g.haggle(2), -1);
        due("haggle(3)", g.haggle(3), -2);
        due("haggle(-1)", g.haggle(-1), -2);

        says("`int stalls(int seed, int m)`: STALLS. BAD; NO.");
        due("stalls(0, 0)", g.stalls(0, 0), 0);
        due("stalls(999999, 60)", g.stalls(999999, 60), new Seen(g).stalls(999999, 60));
        due("stalls(1000000, 60)", g.stalls(1000000, 60), -2);
        due("stalls(999999, 61)", g.stalls(999999, 61), -2);
        due("stalls(-1, 0)", g.stalls(-1, 0), -2);
        due("stalls(0, -1)", g.stalls(0, -1), -2);
        g.ask(0, 15);
        due("stalls(0, 0), nothing LEFT", g.stalls(0, 0), -3);
        refusals(g, 6, 1, 0);
    }

    private static void promisesOfWhatThereIs() {
        says("`long part(int what)`: THE FRACTION: above (0), below (1). BAD.");
        QuestionFair f = ladder(3, 9);
        f.weigh(0, 2);
        rowIs(f, 12, 27, 2);
        due("part(2)", f.part(2), -2);
        due("part(-1)", f.part(-1), -2);

        says("`int image(int i)`: An IMAGE is kept: 1. BAD.");
        due("image(2)", f.image(2), -2);
        due("image(-1)", f.image(-1), -2);
        due("from(0), none was kept", f.from(0), -3);
        due("image(0)", f.image(0), 1);
        due("image(1)", f.image(1), 1);

        says("`int from(int i)`: It goes on from an IMAGE: 1. BAD; NO: none was kept.");
        f.fair(1);
        due("from(2)", f.from(2), -2);
        due("from(-1)", f.from(-1), -2);
        due("count(0)", f.count(0), 1);
        due("from(1)", f.from(1), 1);
        due("count(0)", f.count(0), 3);
        refusals(f, 6, 1, 0);

        says("`int status(int what)`: STATUS: BAD (0), NO (1), FULL (2). -1: another what (counts as BAD).");
        due("status(3)", f.status(3), -1);
        due("status(-1)", f.status(-1), -1);
        refusals(f, 8, 1, 0);

        says("`int count(int what)`: How many: 0 CASES, 1 QUESTIONS, 2 ASKED, 3 CASES LEFT, 4 that may be undone, 5 bytes of "
                + "THE TEXT. BAD.");
        int[] none = {8, 0, 0, 8, 0, 0};
        int[] most = {16, 7, 8, 15, 8, 150};
        QuestionFair full = of(16, 0, 15, 1, 0, 15, 1, 0, 15, 1, 0, 15, 1, 0, 15, 1, 0, 15, 1, 0, 15, 1);
        for (int i = 0; i < 8; i++) {
            full.ask(i % 7, 0);
        }
        typeAll(full, blanks(150));
        for (int what = 0; what < 6; what++) {
            due("count(" + what + "), new", new QuestionFair().count(what), none[what]);
            due("count(" + what + "), full", full.count(what), most[what]);
        }
        full.forget();
        full.ask(0, 1);
        due("count(3), nothing LEFT", full.count(3), 0);
        due("count(6)", full.count(6), -2);
        due("count(-1)", full.count(-1), -2);
        refusals(full, 2, 0, 0);

        says("`long digest()`: h = 1091; then h = 31 h + v for each v: count(0) to count(5); WEIGHTS of all CASES; of "
                + "QUESTIONS KIND, a, PENCE; of ASKED the QUESTION, the ANSWER; THE FRACTION.");
        QuestionFair g = of(3, 5, 15, 99, 1, 2, 3);
        g.weigh(0, 9);
        g.weigh(2, 7);
        rowIs(g, 2, 3, 1);
        rowIs(g, 22, 9 * 6 + 6 + 21, 17);
        g.ask(1, 1);
        g.ask(0, 15);
        g.forget();
        g.type(0);
        due("digest(), beyond 64 bits", g.digest(), digestOf(3, 2, 1, 0, 3, 1, 9, 1, 7, 5, 15, 99, 1, 2, 3, 0, 15, 81, 17));
        due("digest() of the least", of(1).digest(), digestOf(1, 0, 0, 1, 0, 0, 1, 0, 1));

        says("An object is used for at most 512 calls after it has been made; what later calls answer is free.");
        QuestionFair often = new QuestionFair();
        for (int i = 0; i < 511; i++) {
            often.fair(17);
        }
        due("status(0), the 512th call", often.status(0), 511);
    }

    // ---- the words of the document

    private static String inOneLine(String text) {
        return text.replaceAll("\\s+", " ");
    }

    private static String promised(String document) {
        String text = document.replaceAll("(?s)## The public face.*?## Terms", "");
        int from = text.indexOf("======== 1 ");
        int to = text.indexOf("## Not promised");
        text = from >= 0 && to > from ? text.substring(from, to) : "";
        text = text.replaceAll("(?m)^## .*$", "").replaceAll("(?m)^Ahead of the calls .*$", "");
        return inOneLine(text.replaceAll("```(text)?", "").replaceAll("======== [12]", ""));
    }

    /** Each of the words stands in the document, and nothing in it stands outside of them. */
    private static void theDocument() throws Exception {
        sentence = "the words of the document";
        if (!Files.isReadable(DOCUMENT)) {
            System.out.println("no " + DOCUMENT + ": the words are not looked up");
            return;
        }
        String text = promised(Files.readString(DOCUMENT));
        boolean[] covered = new boolean[text.length()];
        for (String words : WORDS) {
            int at = text.indexOf(inOneLine(words));
            due("'" + words + "' in the document", at >= 0 ? 1 : 0, 1);
            for (int i = Math.max(at, 0); at >= 0 && i < at + inOneLine(words).length(); i++) {
                covered[i] = true;
            }
        }
        StringBuilder rest = new StringBuilder();
        for (int i = 0; i < covered.length; i++) {
            rest.append(covered[i] ? '|' : text.charAt(i));
        }
        due("words without a test: " + rest.toString().replaceAll("\\|+", " | "),
                rest.toString().replaceAll("[| ]", "").length(), 0);
    }

    public static void main(String[] args) throws Exception {
        cases();
        questionsComing();
        kinds();
        askedAndLeft();
        texts();
        faults();
        textsThatEnd();
        cutsEmptySame();
        bests();
        atOnces();
        oneByOnes();
        oneWrongKnowsParted();
        rows();
        haggles();
        stalls();
        undone();
        images();
        statusAndFraction();
        promisesOfAFair();
        promisesOfATextAndAsked();
        promisesOfQuestions();
        promisesOfWhatItCuts();
        promisesOfRows();
        promisesOfWhatThereIs();
        theDocument();
        System.out.println(WORDS.size() + " sentences, " + checks + " checks, " + wrong + " wrong");
        if (wrong != 0) {
            System.exit(1);
        }
    }
}
