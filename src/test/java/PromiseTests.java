/** For each promise of the document: ordinary inputs, its edges, and wrong inputs. */
public final class PromiseTests {
    private static int wrong = 0;
    private static int checks = 0;
    private static int promise = 0;

    private static void due(String call, long got, long want) {
        checks++;
        if (got != want) {
            wrong++;
            System.out.println("promise " + promise + ": " + call + " answered " + got + ", due is " + want);
        }
    }

    private static int typeAll(QuestionFair f, String text) {
        f.clear();
        int has = 0;
        for (int i = 0; i < text.length(); i++) {
            has = f.type(text.charAt(i));
        }
        return has;
    }

    private static int readOf(QuestionFair f, String text) {
        typeAll(f, text);
        return f.read();
    }

    private static void refusals(QuestionFair f, int bad, int no, int full) {
        due("status(0)", f.status(0), bad);
        due("status(1)", f.status(1), no);
        due("status(2)", f.status(2), full);
    }

    private static QuestionFair whethers(int n, int... marksAndPence) {
        QuestionFair f = new QuestionFair();
        f.fair(n);
        for (int i = 0; i + 1 < marksAndPence.length; i += 2) {
            f.question(0, marksAndPence[i], marksAndPence[i + 1]);
        }
        return f;
    }

    private static void newObject() {
        promise = 1;
        QuestionFair f = new QuestionFair();
        due("count(0)", f.count(0), 8);
        for (int what = 1; what <= 5; what++) {
            due("count(" + what + ")", f.count(what), what == 3 ? 8 : 0);
        }
        due("part(0)", f.part(0), 0);
        due("part(1)", f.part(1), 1);
        due("left()", f.left(), 255);
        for (int x = 0; x < 8; x++) {
            due("weigh(" + x + ", 1)", f.weigh(x, 1), 1);
        }
        due("from(0)", f.from(0), -3);
        due("from(1)", f.from(1), -3);
        refusals(f, 0, 2, 0);
        due("NONE", QuestionFair.NONE, -1);
        due("BAD", QuestionFair.BAD, -2);
        due("NO", QuestionFair.NO, -3);
        due("FULL", QuestionFair.FULL, -4);
    }

    private static void fairs() {
        promise = 2;
        QuestionFair f = new QuestionFair();
        f.weigh(3, 9);
        f.question(0, 4, 7);
        f.question(1, 4, 7);
        f.ask(0, 1);
        f.row(1);
        f.type(65);
        f.image(1);
        due("fair(0)", f.fair(0), -2);
        due("fair(17)", f.fair(17), -2);
        due("fair(-1)", f.fair(-1), -2);
        due("count(1)", f.count(1), 2);
        due("fair(16)", f.fair(16), 2);
        due("count(0)", f.count(0), 16);
        due("count(1)", f.count(1), 0);
        due("count(2)", f.count(2), 0);
        due("count(4)", f.count(4), 0);
        due("count(5)", f.count(5), 1);
        due("left()", f.left(), 65535);
        due("weigh(3, 2)", f.weigh(3, 2), 1);
        due("part(0)", f.part(0), 7);
        due("undo()", f.undo(), -3);
        refusals(f, 3, 1, 0);
        due("fair(1)", f.fair(1), 0);
        due("left()", f.left(), 1);
        due("from(1)", f.from(1), 1);
        due("count(1)", f.count(1), 2);
    }

    private static void weighs() {
        promise = 3;
        QuestionFair f = new QuestionFair();
        due("weigh(0, 9)", f.weigh(0, 9), 1);
        due("weigh(0, 4)", f.weigh(0, 4), 9);
        due("weigh(7, 1)", f.weigh(7, 1), 1);
        due("weigh(8, 1)", f.weigh(8, 1), -2);
        due("weigh(-1, 1)", f.weigh(-1, 1), -2);
        due("weigh(0, 0)", f.weigh(0, 0), -2);
        due("weigh(0, 10)", f.weigh(0, 10), -2);
        due("weigh(0, 1)", f.weigh(0, 1), 4);
        refusals(f, 4, 0, 0);
    }

    private static void questions() {
        promise = 4;
        QuestionFair f = new QuestionFair();
        due("question(-1, 0, 0)", f.question(-1, 0, 0), -2);
        due("question(6, 0, 0)", f.question(6, 0, 0), -2);
        due("question(0, -1, 0)", f.question(0, -1, 0), -2);
        due("question(0, 16, 0)", f.question(0, 16, 0), -2);
        due("question(0, 0, -1)", f.question(0, 0, -1), -2);
        due("question(0, 0, 100)", f.question(0, 0, 100), -2);
        for (int q = 0; q < 7; q++) {
            due("question " + q, f.question(q % 6, 15, 99), q);
        }
        due("question(0, 0, 0)", f.question(0, 0, 0), -4);
        due("question(6, 0, 0)", f.question(6, 0, 0), -2);
        due("count(1)", f.count(1), 7);
        refusals(f, 7, 0, 1);
    }

    private static void prices() {
        promise = 5;
        QuestionFair f = whethers(8, 4, 10);
        due("price(0, 99)", f.price(0, 99), 10);
        due("price(0, 0)", f.price(0, 0), 99);
        due("price(0, 100)", f.price(0, 100), -2);
        due("price(0, -1)", f.price(0, -1), -2);
        due("price(1, 5)", f.price(1, 5), -2);
        due("price(-1, 5)", f.price(-1, 5), -2);
        due("of(0, 2)", f.of(0, 2), 0);
        f.ask(0, 1);
        f.price(0, 3);
        due("count(4)", f.count(4), 1);
        refusals(f, 4, 0, 0);
    }

    private static void types() {
        promise = 6;
        QuestionFair f = new QuestionFair();
        due("type(-1)", f.type(-1), -2);
        due("type(128)", f.type(128), -2);
        due("type(0)", f.type(0), 1);
        due("type(127)", f.type(127), 2);
        for (int i = 3; i <= 150; i++) {
            due("type", f.type(59), i);
        }
        due("type(59)", f.type(59), -4);
        due("type(128)", f.type(128), -2);
        due("count(5)", f.count(5), 150);
        refusals(f, 3, 0, 1);
    }

    private static void clears() {
        promise = 7;
        QuestionFair f = new QuestionFair();
        due("clear()", f.clear(), 0);
        typeAll(f, "fair 3;");
        due("clear()", f.clear(), 7);
        due("clear()", f.clear(), 0);
        due("read()", f.read(), -10);
    }

    private static void reads() {
        promise = 8;
        QuestionFair f = new QuestionFair();
        String[] texts = {
            "", "   ", "fair", "fair 8", "fair 8;", " fair 08 ; ", "fair8;case7 9;", "fair 16;case 15 9;case 15 8;",
            "fair 17;", "fair 0;", "fair 00;", "fair 008;", "fair 123;", "fair 8 8;", "fair;", "fair case;",
            "fairs 8;", "case 0 1;", "8;", ";", "fair 8;;", "fair 8;fair 8;", "fair 8;case 8 1;", "fair 8;case 0 0;",
            "fair 8;case 0 10;", "fair 8;case 0 1", "fair 8;case 0", "fair 8;case", "fair 8;cas", "fair 8;case 0 1 1;",
            "fair 8;question 5 15 99;", "fair 8;question 6 0 0;", "fair 8;question 0 16 0;", "fair 8;question 0 0 100;",
            "fair 8;question 0 0;", "fair 8;question 0 0 0 0;", "fair 8;question 0,0 0;", "Fair 8;", "fair\t8;",
            "fair 8;case 007 1;", "fair 8;question 0 0 000", "fair 1 0;", "fair 8; 9", "fair 8;f", "fair 8;-",
        };
        int[] dues = {
            -10, -13, -14, -16, 1, 1, 2, 3,
            -15, -15, -15, -15, -15, -17, -14, -15,
            -10, -10, -10, -10, -17, -17, -22, -24,
            -24, -25, -23, -21, -17, -26,
            2, -26, -28, -30,
            -29, -32, -27, -10, -14,
            -22, -30, -17, -18, -17, -17,
        };
        for (int i = 0; i < texts.length; i++) {
            due("read() of '" + texts[i] + "'", readOf(f, texts[i]), dues[i]);
        }
        refusals(f, 0, 0, 0);
        readTakesThePlace();
        readTheMost();
    }

    private static void readTakesThePlace() {
        QuestionFair f = whethers(4, 2, 6);
        f.weigh(2, 7);
        f.ask(0, 1);
        f.image(0);
        f.row(1);
        f.ask(0, 9);
        due("read()", readOf(f, "fair 5;case 4 9;bad"), -26);
        due("count(0)", f.count(0), 4);
        due("count(2)", f.count(2), 2);
        due("count(4)", f.count(4), 2);
        due("count(5)", f.count(5), 19);
        due("read()", readOf(f, "fair 5;case 4 9;question 2 3 4;"), 3);
        due("count(0)", f.count(0), 5);
        due("count(1)", f.count(1), 1);
        due("count(2)", f.count(2), 0);
        due("count(4)", f.count(4), 0);
        due("count(5)", f.count(5), 31);
        due("of(0, 0)", f.of(0, 0), 2);
        due("of(0, 1)", f.of(0, 1), 3);
        due("of(0, 2)", f.of(0, 2), 4);
        due("weigh(4, 1)", f.weigh(4, 1), 9);
        due("weigh(2, 1)", f.weigh(2, 1), 1);
        due("part(0)", f.part(0), 6);
        due("from(0)", f.from(0), 1);
        due("count(2)", f.count(2), 1);
    }

    private static void readTheMost() {
        QuestionFair f = new QuestionFair();
        String seven = "question0 0 0;question0 0 0;question0 0 0;question0 0 0;question0 0 0;question0 0 0;question0 0 0;";
        due("read() of seven", readOf(f, "fair 1;" + seven), 8);
        due("count(1)", f.count(1), 7);
        due("read() of eight", readOf(f, "fair 1;" + seven + " question"), -10 - (7 + 98 + 1));
        due("read() of a case behind", readOf(f, "fair 1;" + seven + "case 0 9;case 0 8;"), 10);
        due("weigh(0, 1)", f.weigh(0, 1), 8);
    }

    private static void asks() {
        promise = 9;
        QuestionFair f = whethers(8, 4, 1, 6, 1);
        due("ask(2, 0)", f.ask(2, 0), -2);
        due("ask(-1, 0)", f.ask(-1, 0), -2);
        due("ask(0, 16)", f.ask(0, 16), -2);
        due("ask(0, -1)", f.ask(0, -1), -2);
        due("ask(0, 1)", f.ask(0, 1), 240);
        due("ask(1, 0)", f.ask(1, 0), 48);
        due("ask(1, 0)", f.ask(1, 0), 48);
        due("ask(1, 15)", f.ask(1, 15), 0);
        for (int i = 0; i < 4; i++) {
            due("ask(0, 1)", f.ask(0, 1), 0);
        }
        due("ask(0, 1)", f.ask(0, 1), -4);
        due("ask(0, 16)", f.ask(0, 16), -2);
        due("count(2)", f.count(2), 8);
        refusals(f, 5, 0, 1);
    }

    private static void forgets() {
        promise = 10;
        QuestionFair f = whethers(8, 4, 1, 6, 1);
        due("forget()", f.forget(), -3);
        f.ask(0, 1);
        f.ask(1, 0);
        due("forget()", f.forget(), 1);
        due("left()", f.left(), 63);
        due("forget()", f.forget(), 0);
        due("left()", f.left(), 255);
        due("forget()", f.forget(), -3);
        refusals(f, 0, 2, 0);
    }

    private static void undoes() {
        promise = 11;
        QuestionFair f = whethers(8, 4, 1, 6, 1);
        due("undo()", f.undo(), -3);
        f.ask(0, 1);
        f.ask(1, 0);
        f.forget();
        f.ask(0, 0);
        due("left()", f.left(), 15);
        due("undo()", f.undo(), 1);
        due("left()", f.left(), 63);
        due("undo()", f.undo(), 2);
        due("left()", f.left(), 48);
        due("undo()", f.undo(), 1);
        due("left()", f.left(), 240);
        due("undo()", f.undo(), 0);
        due("undo()", f.undo(), -3);
        for (int i = 0; i < 6; i++) {
            f.ask(i % 2, 1);
            f.forget();
        }
        f.ask(0, 0);
        due("count(4)", f.count(4), 8);
        for (int left = 8; left > 0; left--) {
            due("undo()", f.undo(), left % 2 == 0 ? 0 : 1);
        }
        due("count(2)", f.count(2), 1);
        due("undo()", f.undo(), -3);
        due("left()", f.left(), 240);
        f.ask(0, 1);
        f.question(0, 1, 1);
        due("count(4)", f.count(4), 0);
        due("undo()", f.undo(), -3);
        due("count(2)", f.count(2), 2);
        refusals(f, 0, 4, 0);
    }

    private static void ofs() {
        promise = 12;
        QuestionFair f = new QuestionFair();
        due("of(0, 0)", f.of(0, 0), -2);
        f.question(5, 14, 98);
        due("of(0, 0)", f.of(0, 0), 5);
        due("of(0, 1)", f.of(0, 1), 14);
        due("of(0, 2)", f.of(0, 2), 98);
        due("of(0, 3)", f.of(0, 3), -2);
        due("of(0, -1)", f.of(0, -1), -2);
        due("of(1, 0)", f.of(1, 0), -2);
        due("of(-1, 0)", f.of(-1, 0), -2);
        refusals(f, 5, 0, 0);
    }

    private static void answers() {
        promise = 13;
        QuestionFair f = new QuestionFair();
        f.fair(16);
        for (int kind = 0; kind < 6; kind++) {
            f.question(kind, 7, 0);
        }
        int[] cases = {0, 4, 6, 7, 8, 9, 15};
        int[][] dues = {
            {0, 0, 0, 1, 1, 1, 1},
            {1, 1, 1, 0, 0, 0, 0},
            {0, 4, 1, 2, 3, 4, 0},
            {0, 2, 0, 1, 1, 2, 0},
            {0, 4, 1, 7, 8, 9, 5},
            {1, 1, 1, 2, 0, 0, 0},
        };
        for (int q = 0; q < 6; q++) {
            for (int i = 0; i < cases.length; i++) {
                due("answer(" + q + ", " + cases[i] + ")", f.answer(q, cases[i]), dues[q][i]);
            }
        }
        due("answer(6, 0)", f.answer(6, 0), -2);
        due("answer(-1, 0)", f.answer(-1, 0), -2);
        due("answer(0, 16)", f.answer(0, 16), -2);
        due("answer(0, -1)", f.answer(0, -1), -2);
        refusals(f, 4, 0, 0);
    }

    private static void lefts() {
        promise = 14;
        QuestionFair f = whethers(16, 8, 1);
        due("left()", f.left(), 65535);
        f.question(2, 1, 1);
        f.ask(0, 1);
        due("left()", f.left(), 0xff00);
        f.ask(1, 2);
        due("left()", f.left(), 1 << 8 | 1 << 11 | 1 << 14);
        f.ask(1, 1);
        due("left()", f.left(), 0);
    }

    private static void cutsOf() {
        promise = 15;
        QuestionFair f = whethers(8, 6, 1);
        f.weigh(7, 9);
        due("cuts(0, 0)", f.cuts(0, 0), 6);
        due("cuts(0, 1)", f.cuts(0, 1), 2);
        due("cuts(0, 2)", f.cuts(0, 2), 6);
        f.question(5, 7, 1);
        due("cuts(1, 0)", f.cuts(1, 0), 7);
        due("cuts(1, 1)", f.cuts(1, 1), 2);
        due("cuts(1, 2)", f.cuts(1, 2), 7);
        due("cuts(1, 3)", f.cuts(1, 3), -2);
        due("cuts(1, -1)", f.cuts(1, -1), -2);
        due("cuts(2, 0)", f.cuts(2, 0), -2);
        due("cuts(-1, 0)", f.cuts(-1, 0), -2);
        f.ask(0, 5);
        for (int what = 0; what < 3; what++) {
            due("cuts(0, " + what + ")", f.cuts(0, what), 0);
        }
        refusals(f, 4, 0, 0);
    }

    private static void empties() {
        promise = 16;
        QuestionFair f = whethers(8, 0, 1, 4, 1, 8, 1, 7, 1);
        due("empty()", f.empty(), 5);
        f.ask(1, 1);
        due("empty()", f.empty(), 7);
        f.ask(3, 1);
        due("empty()", f.empty(), 15);
        f.ask(0, 0);
        due("empty()", f.empty(), 15);
        due("empty() of none", new QuestionFair().empty(), 0);
    }

    private static void sames() {
        promise = 17;
        QuestionFair f = whethers(8, 4, 1, 5, 1);
        f.question(1, 4, 1);
        f.question(1, 5, 1);
        f.question(0, 4, 9);
        due("same(-1)", f.same(-1), 4);
        due("same(0)", f.same(0), 2);
        due("same(1)", f.same(1), 4);
        due("same(2)", f.same(2), 13);
        due("same(3)", f.same(3), 24);
        due("same(4)", f.same(4), -5);
        due("same(100)", f.same(100), -5);
        due("same(-2)", f.same(-2), -10);
        f.ask(0, 1);
        f.ask(1, 1);
        due("same(-1)", f.same(-1), 10);
        due("same(9)", f.same(9), 34);
        refusals(f, 1, 0, 0);
        due("same(-1) of none", new QuestionFair().same(-1), 0);
    }

    private static void bests() {
        promise = 18;
        due("best() of none", new QuestionFair().best(), -1);
        QuestionFair f = whethers(8, 2, 1, 4, 9, 4, 3, 4, 3);
        due("best()", f.best(), 2);
        f.price(2, 9);
        due("best()", f.best(), 3);
        f.price(3, 9);
        due("best()", f.best(), 1);
        f.ask(1, 0);
        due("best()", f.best(), 0);
        f.ask(1, 1);
        due("best()", f.best(), -1);
        refusals(f, 0, 0, 0);
    }

    private static void atOnces() {
        promise = 19;
        QuestionFair f = whethers(4, 1, 5, 2, 5, 3, 5);
        due("atOnce(0)", f.atOnce(0), 7);
        due("atOnce(1)", f.atOnce(1), 15);
        f.question(2, 2, 15);
        due("atOnce(0)", f.atOnce(0), 8);
        f.price(3, 16);
        due("atOnce(0)", f.atOnce(0), 7);
        f.question(2, 2, 15);
        f.question(2, 6, 15);
        due("atOnce(0)", f.atOnce(0), 16);
        due("atOnce(2)", f.atOnce(2), -2);
        due("atOnce(-1)", f.atOnce(-1), -2);
        QuestionFair g = whethers(4, 1, 5, 2, 5);
        due("atOnce(0)", g.atOnce(0), -1);
        due("atOnce(1)", g.atOnce(1), -1);
        g.ask(1, 0);
        due("atOnce(0)", g.atOnce(0), 1);
        g.ask(0, 0);
        due("atOnce(0)", g.atOnce(0), 0);
        due("atOnce(1)", g.atOnce(1), 0);
        refusals(f, 2, 0, 0);
    }

    private static void oneByOnes() {
        promise = 20;
        QuestionFair f = whethers(4, 1, 5, 2, 5, 3, 5);
        due("oneByOne(0)", f.oneByOne(0), 10);
        due("oneByOne(1)", f.oneByOne(1), 1);
        due("oneByOne(2)", f.oneByOne(2), 2);
        f.price(0, 0);
        due("oneByOne(0)", f.oneByOne(0), 10);
        due("oneByOne(1)", f.oneByOne(1), 0);
        due("oneByOne(2)", f.oneByOne(2), 3);
        due("oneByOne(3)", f.oneByOne(3), -2);
        due("oneByOne(-1)", f.oneByOne(-1), -2);
        QuestionFair free = whethers(2, 0, 0, 1, 4);
        due("oneByOne(1), an empty one for nothing", free.oneByOne(1), 1);
        due("oneByOne(2), an empty one for nothing", free.oneByOne(2), 1);
        QuestionFair g = whethers(4, 1, 5, 2, 5);
        for (int what = 0; what < 3; what++) {
            due("oneByOne(" + what + ")", g.oneByOne(what), -1);
        }
        g.ask(1, 0);
        due("oneByOne(1)", g.oneByOne(1), 0);
        g.ask(0, 0);
        due("oneByOne(0)", g.oneByOne(0), 0);
        due("oneByOne(1)", g.oneByOne(1), -1);
        due("oneByOne(2)", g.oneByOne(2), 0);
        g.ask(0, 1);
        due("oneByOne(0)", g.oneByOne(0), 0);
        due("oneByOne(1)", g.oneByOne(1), -1);
        due("oneByOne(2)", g.oneByOne(2), 0);
        refusals(f, 2, 0, 0);
    }

    private static void oneWrongs() {
        promise = 21;
        QuestionFair f = whethers(8, 2, 1, 4, 1, 6, 1);
        due("oneWrong()", f.oneWrong(), 255);
        f.ask(1, 1);
        due("oneWrong()", f.oneWrong(), 255);
        f.ask(2, 0);
        due("oneWrong()", f.oneWrong(), 255);
        f.ask(0, 1);
        due("oneWrong()", f.oneWrong(), 252);
        f.ask(0, 1);
        due("oneWrong(), the same again", f.oneWrong(), 252);
        f.ask(1, 1);
        due("oneWrong()", f.oneWrong(), 240);
        f.ask(0, 7);
        due("oneWrong()", f.oneWrong(), 48);
        f.ask(0, 7);
        due("oneWrong()", f.oneWrong(), 0);
    }

    private static void knowsOf() {
        promise = 22;
        QuestionFair f = whethers(8, 4, 1, 6, 1);
        f.question(1, 4, 1);
        due("knows(0, 15, 0)", f.knows(0, 15, 0), 6);
        due("knows(0, 15, 1)", f.knows(0, 15, 1), 0);
        due("knows(5, 48, 0)", f.knows(5, 48, 0), 3);
        due("knows(5, 48, 1)", f.knows(5, 48, 1), 2);
        due("knows(5, 63, 0)", f.knows(5, 63, 0), 1);
        due("knows(5, 255, 1)", f.knows(5, 255, 1), 0);
        due("knows(5, 32, 0)", f.knows(5, 32, 0), 0);
        due("knows(5, 32, 1)", f.knows(5, 32, 1), -1);
        f.ask(0, 0);
        due("knows(5, 48, 0), whatever was asked", f.knows(5, 48, 0), 3);
        due("knows(8, 255, 0)", f.knows(8, 255, 0), -10);
        due("knows(-1, 255, 0)", f.knows(-1, 255, 0), -10);
        due("knows(0, 256, 0)", f.knows(0, 256, 0), -10);
        due("knows(0, 257, 0)", f.knows(0, 257, 0), -10);
        due("knows(0, -1, 0)", f.knows(0, -1, 0), -10);
        due("knows(0, 2, 0)", f.knows(0, 2, 0), -10);
        due("knows(0, 0, 0)", f.knows(0, 0, 0), -10);
        due("knows(0, 1, 2)", f.knows(0, 1, 2), -10);
        due("knows(0, 1, -1)", f.knows(0, 1, -1), -10);
        refusals(f, 9, 0, 0);
    }

    private static void parteds() {
        promise = 23;
        QuestionFair f = whethers(8, 4, 1, 6, 1);
        due("parted(0)", f.parted(0), 16);
        due("parted(1)", f.parted(1), 12);
        due("parted(-1)", f.parted(-1), 20);
        due("parted(2)", f.parted(2), -10);
        due("parted(-2)", f.parted(-2), -10);
        f.ask(0, 1);
        due("parted(0)", f.parted(0), 0);
        due("parted(1)", f.parted(1), 4);
        f.ask(0, 0);
        due("parted(-1)", f.parted(-1), 0);
        refusals(f, 2, 0, 0);
        due("parted(-1) of none", new QuestionFair().parted(-1), 0);
    }

    private static void fractionIs(QuestionFair f, long above, long below) {
        due("part(0)", f.part(0), above);
        due("part(1)", f.part(1), below);
    }

    private static void rowsOf() {
        promise = 24;
        QuestionFair f = whethers(4, 1, 3, 2, 5, 3, 7);
        f.weigh(0, 6);
        due("row(123)", f.row(123), 1);
        fractionIs(f, 6 * 3 + 8 + 15 + 15, 9);
        f.weigh(3, 2);
        due("row(123)", f.row(123), 1);
        fractionIs(f, 6 * 3 + 8 + 15 * 3, 10);
        due("row(213)", f.row(213), 1);
        fractionIs(f, 7 * 8 + 15 * 3, 10);
        due("row(11)", f.row(11), 1);
        fractionIs(f, 6 * 3 + 4 * 6, 10, "row(11)");
        due("row(1111111)", f.row(1111111), 1);
        fractionIs(f, 6 * 3 + 4 * 21, 10, "row(1111111)");
        due("row(0)", f.row(0), 1);
        fractionIs(f, 0, 1);
        f.row(3);
        for (int row : new int[] {-1, 4, 14, 41, 10, 103, 8, 9, 11111111, 2111111111, Integer.MIN_VALUE, 7777777}) {
            due("row(" + row + ")", f.row(row), -2);
        }
        fractionIs(f, 7, 1);
        f.ask(0, 5);
        due("row(1)", f.row(1), -3);
        due("row(0)", f.row(0), -3);
        due("row(4)", f.row(4), -2);
        fractionIs(f, 7, 1);
        refusals(f, 13, 2, 0);
    }

    private static void fractionIs(QuestionFair f, long above, long below, String call) {
        due(call + " above by below", f.part(0) * below, above * f.part(1));
        long a = f.part(0);
        long b = f.part(1);
        while (b != 0) {
            long rest = a % b;
            a = b;
            b = rest;
        }
        due(call + " in lowest terms", a, 1);
    }

    private static void bestRows() {
        promise = 25;
        QuestionFair f = new QuestionFair();
        due("bestRow() of none", f.bestRow(), 0);
        fractionIs(f, 0, 1);
        QuestionFair g = whethers(4, 1, 3, 2, 5, 3, 7);
        due("bestRow()", g.bestRow(), 123);
        fractionIs(g, 3 + 8 + 15 + 15, 4);
        g.weigh(3, 9);
        due("bestRow()", g.bestRow(), 312);
        fractionIs(g, 9 * 7 + 10 + 15 + 15, 12, "bestRow()");
        g.ask(2, 1);
        due("bestRow(), it is known", g.bestRow(), 123);
        fractionIs(g, 0, 1);
        g.row(1);
        g.ask(2, 0);
        due("bestRow()", g.bestRow(), -3);
        fractionIs(g, 0, 1);
        refusals(g, 0, 1, 0);
    }

    private static void haggles() {
        promise = 26;
        QuestionFair f = whethers(3, 1, 5, 2, 6, 1, 9);
        due("haggle(0)", f.haggle(0), 9);
        due("haggle(1)", f.haggle(1), 99);
        due("haggle(2)", f.haggle(2), 4);
        f.question(4, 5, 20);
        due("haggle(1), something else there", f.haggle(1), -1 + 20 - 5);
        due("haggle(3)", f.haggle(3), 11);
        due("haggle(4)", f.haggle(4), -2);
        due("haggle(-1)", f.haggle(-1), -2);
        f.ask(0, 0);
        due("haggle(0), it is known", f.haggle(0), -1);
        QuestionFair g = whethers(3, 1, 5, 3, 0);
        due("haggle(0), can not be", g.haggle(0), -1);
        QuestionFair h = whethers(3, 1, 5, 2, 6, 3, 0);
        due("haggle(2), an empty one", h.haggle(2), -1);
        due("haggle(0), for nothing", whethers(2, 1, 5, 1, 0).haggle(0), 0);
        due("haggle(1), not even for nothing", whethers(2, 1, 0, 1, 5).haggle(1), -1);
        refusals(f, 2, 0, 0);
    }

    private static void stallsOf() {
        promise = 27;
        QuestionFair f = new QuestionFair();
        due("stalls(0, 0) of none", f.stalls(0, 0), -3);
        QuestionFair g = whethers(2, 1, 7, 0, 2);
        long x = 5;
        int paid = 0;
        for (int time = 0; time < 60; time++) {
            x = (x * 1103515245L + 12345L) % 2147483648L;
            for (int drawn = 0; drawn < 12; drawn++) {
                x = (x * 1103515245L + 12345L) % 2147483648L;
                if (x / 65536 % 2 == 0) {
                    paid += 7;
                    break;
                }
                paid += 2;
            }
        }
        due("stalls(5, 60)", g.stalls(5, 60), paid);
        due("stalls(5, 0)", g.stalls(5, 0), 0);
        due("stalls(999999, 0)", g.stalls(999999, 0), 0);
        due("stalls(1000000, 1)", g.stalls(1000000, 1), -2);
        due("stalls(-1, 1)", g.stalls(-1, 1), -2);
        due("stalls(0, 61)", g.stalls(0, 61), -2);
        due("stalls(0, -1)", g.stalls(0, -1), -2);
        due("stalls, never known", whethers(2, 0, 3).stalls(1, 2), 72);
        g.ask(0, 1);
        due("stalls(5, 60), it is known", g.stalls(5, 60), 0);
        g.ask(0, 0);
        due("stalls(5, 60)", g.stalls(5, 60), -3);
        refusals(g, 4, 1, 0);
    }

    private static void parts() {
        promise = 28;
        QuestionFair f = whethers(4, 1, 3);
        fractionIs(f, 0, 1);
        f.weigh(0, 3);
        f.question(0, 2, 4);
        f.row(12);
        fractionIs(f, 3 * 3 + 7 + 14, 6, "row(12)");
        due("part(0)", f.part(0), 5);
        due("part(1)", f.part(1), 1);
        due("part(2)", f.part(2), -2);
        due("part(-1)", f.part(-1), -2);
        refusals(f, 2, 0, 0);
    }

    private static void images() {
        promise = 29;
        QuestionFair f = whethers(4, 1, 3);
        due("image(2)", f.image(2), -2);
        due("image(-1)", f.image(-1), -2);
        due("image(0)", f.image(0), 1);
        f.fair(9);
        due("image(1)", f.image(1), 1);
        f.from(0);
        due("count(0)", f.count(0), 4);
        due("count(1)", f.count(1), 1);
        f.from(1);
        due("count(0)", f.count(0), 9);
        due("image(0)", f.image(0), 1);
        f.fair(2);
        f.from(0);
        due("count(0)", f.count(0), 9);
        refusals(f, 2, 0, 0);
    }

    private static void froms() {
        promise = 30;
        QuestionFair f = whethers(4, 1, 3, 2, 5);
        due("from(0)", f.from(0), -3);
        due("from(2)", f.from(2), -2);
        due("from(-1)", f.from(-1), -2);
        f.weigh(2, 5);
        f.ask(0, 1);
        f.ask(1, 0);
        f.forget();
        f.image(1);
        f.undo();
        f.undo();
        f.weigh(2, 1);
        f.price(1, 9);
        f.row(2);
        f.type(97);
        due("from(0)", f.from(0), -3);
        due("from(1)", f.from(1), 1);
        due("count(4)", f.count(4), 3);
        due("left()", f.left(), 3);
        due("of(1, 2)", f.of(1, 2), 5);
        due("weigh(2, 4)", f.weigh(2, 4), 5);
        due("count(5)", f.count(5), 1);
        due("part(0)", f.part(0), 9);
        due("undo()", f.undo(), 2);
        due("undo()", f.undo(), 1);
        due("left()", f.left(), 14);
        due("from(1) again", f.from(1), 1);
        due("weigh(2, 4)", f.weigh(2, 4), 5);
        due("count(2)", f.count(2), 1);
        refusals(f, 2, 2, 0);
    }

    private static void statuses() {
        promise = 31;
        QuestionFair f = new QuestionFair();
        refusals(f, 0, 0, 0);
        due("status(3)", f.status(3), -1);
        due("status(-1)", f.status(-1), -1);
        refusals(f, 2, 0, 0);
        f.undo();
        f.forget();
        f.from(0);
        f.stalls(0, 1);
        refusals(f, 2, 4, 0);
        f.best();
        f.atOnce(0);
        f.same(5);
        f.read();
        refusals(f, 2, 4, 0);
        for (int i = 0; i < 9; i++) {
            f.question(0, 0, 0);
        }
        refusals(f, 2, 4, 2);
        f.image(0);
        f.fair(3);
        f.from(0);
        refusals(f, 2, 4, 2);
    }

    private static void counts() {
        promise = 32;
        QuestionFair f = whethers(5, 1, 3, 2, 5);
        f.ask(1, 1);
        f.type(1);
        int[] dues = {5, 2, 1, 3, 1, 1};
        for (int what = 0; what < 6; what++) {
            due("count(" + what + ")", f.count(what), dues[what]);
        }
        due("count(6)", f.count(6), -2);
        due("count(-1)", f.count(-1), -2);
        refusals(f, 2, 0, 0);
    }

    private static long mixed(long... values) {
        long h = 1091;
        for (long v : values) {
            h = 31 * h + v;
        }
        return h;
    }

    private static void digests() {
        promise = 33;
        QuestionFair f = new QuestionFair();
        due("digest()", f.digest(), mixed(8, 0, 0, 8, 0, 0, 1, 1, 1, 1, 1, 1, 1, 1, 0, 1));
        f.fair(2);
        f.weigh(1, 4);
        f.question(4, 15, 98);
        f.question(0, 1, 7);
        f.row(2);
        f.ask(1, 0);
        f.ask(0, 13);
        f.type(3);
        due("digest()", f.digest(), mixed(2, 2, 2, 0, 2, 1, 1, 4, 4, 15, 98, 0, 1, 7, 1, 0, 0, 13, 7, 1));
        f.status(9);
        due("digest()", f.digest(), mixed(2, 2, 2, 0, 2, 1, 1, 4, 4, 15, 98, 0, 1, 7, 1, 0, 0, 13, 7, 1));
    }

    public static void main(String[] args) {
        newObject();
        fairs();
        weighs();
        questions();
        prices();
        types();
        clears();
        reads();
        asks();
        forgets();
        undoes();
        ofs();
        answers();
        lefts();
        cutsOf();
        empties();
        sames();
        bests();
        atOnces();
        oneByOnes();
        oneWrongs();
        knowsOf();
        parteds();
        rowsOf();
        bestRows();
        haggles();
        stallsOf();
        parts();
        images();
        froms();
        statuses();
        counts();
        digests();
        System.out.println(checks + " checks, " + wrong + " wrong");
        if (wrong != 0) {
            System.exit(1);
        }
    }
}
