import java.util.ArrayList;
import java.util.HashMap;
import java.util.HashSet;
import java.util.LinkedHashMap;
import java.util.List;
import java.util.Map;
import java.util.Random;
import java.util.Set;

/** Random runs of calls, each answered by the class and by a slow model written from the document. */
public final class ModelTests {
    private static final int RUNS = 400;
    private static final int CALLS = 512;
    private static int wrong = 0;

    /** The document again, in its plainest form: lists, maps, every set and every row tried. */
    private static final class Model {
        int n = 8;
        int[] weights = ones();
        List<int[]> questions = new ArrayList<>();
        List<int[]> asked = new ArrayList<>();
        List<List<int[]>> earlier = new ArrayList<>();
        Model[] images = new Model[2];
        StringBuilder text = new StringBuilder();
        long above = 0;
        long below = 1;
        int[] refused = new int[3];

        static int[] ones() {
            int[] all = new int[16];
            java.util.Arrays.fill(all, 1);
            return all;
        }

        int bad() {
            refused[0]++;
            return -2;
        }

        int bad(int as) {
            refused[0]++;
            return as;
        }

        int no() {
            refused[1]++;
            return -3;
        }

        int full() {
            refused[2]++;
            return -4;
        }

        boolean isCase(int x) {
            return x >= 0 && x < n;
        }

        boolean isQuestion(int q) {
            return q >= 0 && q < questions.size();
        }

        static int answerOf(int kind, int a, int x) {
            int whether = x >= a ? 1 : 0;
            int over = x % (a % 4 + 2);
            int[] all = {whether, 1 - whether, over, over / 2, over + 5 * whether, x == a ? 2 : 1 - whether};
            return all[kind];
        }

        int says(int q, int x) {
            return answerOf(questions.get(q)[0], questions.get(q)[1], x);
        }

        int pence(int q) {
            return questions.get(q)[2];
        }

        void copyKept(Model from) {
            n = from.n;
            weights = from.weights.clone();
            questions = new ArrayList<>();
            for (int[] q : from.questions) {
                questions.add(q.clone());
            }
            asked = new ArrayList<>(from.asked);
            earlier = new ArrayList<>();
            for (List<int[]> one : from.earlier) {
                earlier.add(new ArrayList<>(one));
            }
        }

        void startWith(int cases) {
            n = cases;
            weights = ones();
            questions.clear();
            asked.clear();
            earlier.clear();
        }

        int fair(int cases) {
            if (cases < 1 || cases > 16) {
                return bad();
            }
            int were = questions.size();
            startWith(cases);
            return were;
        }

        int weigh(int x, int weight) {
            if (!isCase(x) || weight < 1 || weight > 9) {
                return bad();
            }
            int was = weights[x];
            weights[x] = weight;
            return was;
        }

        int question(int kind, int a, int pence) {
            if (kind < 0 || kind > 5 || a < 0 || a > 15 || pence < 0 || pence > 99) {
                return bad();
            }
            if (questions.size() == 7) {
                return full();
            }
            questions.add(new int[] {kind, a, pence});
            earlier.clear();
            return questions.size() - 1;
        }

        int price(int q, int pence) {
            if (!isQuestion(q) || pence < 0 || pence > 99) {
                return bad();
            }
            int was = pence(q);
            questions.get(q)[2] = pence;
            return was;
        }

        int type(int c) {
            if (c < 0 || c > 127) {
                return bad();
            }
            if (text.length() == 150) {
                return full();
            }
            text.append((char) c);
            return text.length();
        }

        int clear() {
            int was = text.length();
            text.setLength(0);
            return was;
        }

        int read() {
            String all = text.toString();
            java.util.regex.Matcher m =
                    java.util.regex.Pattern.compile("[a-z]+|[0-9]+|[^ ]", java.util.regex.Pattern.DOTALL).matcher(all);
            List<String> tokens = new ArrayList<>();
            List<Integer> places = new ArrayList<>();
            while (m.find()) {
                tokens.add(m.group());
                places.add(m.start());
            }
            places.add(all.length());
            Model made = new Model();
            int items = 0;
            int at = 0;
            while (at < tokens.size() || items == 0) {
                String word = at < tokens.size() ? tokens.get(at) : "";
                boolean fits = items == 0 ? word.equals("fair")
                        : word.equals("case") || word.equals("question") && made.questions.size() < 7;
                if (!fits) {
                    return -10 - places.get(at);
                }
                int[][] limits = word.equals("fair") ? new int[][] {{1, 16}}
                        : word.equals("case") ? new int[][] {{0, made.n - 1}, {1, 9}}
                        : new int[][] {{0, 5}, {0, 15}, {0, 99}};
                int[] numbers = new int[limits.length];
                for (int i = 0; i < limits.length; i++) {
                    at++;
                    String token = at < tokens.size() ? tokens.get(at) : "";
                    if (!token.matches("[0-9]{1,2}")) {
                        return -10 - places.get(at);
                    }
                    numbers[i] = Integer.parseInt(token);
                    if (numbers[i] < limits[i][0] || numbers[i] > limits[i][1]) {
                        return -10 - places.get(at);
                    }
                }
                at++;
                if (at >= tokens.size() || !tokens.get(at).equals(";")) {
                    return -10 - places.get(at);
                }
                at++;
                items++;
                if (word.equals("fair")) {
                    made.n = numbers[0];
                } else if (word.equals("case")) {
                    made.weights[numbers[0]] = numbers[1];
                } else {
                    made.questions.add(numbers);
                }
            }
            copyKept(made);
            return items;
        }

        int fitting(int wrongOnes) {
            int bits = 0;
            for (int x = 0; x < n; x++) {
                int off = 0;
                for (int[] one : asked) {
                    off += says(one[0], x) == one[1] ? 0 : 1;
                }
                bits |= off <= wrongOnes ? 1 << x : 0;
            }
            return bits;
        }

        int left() {
            return fitting(0);
        }

        int oneWrong() {
            return fitting(1);
        }

        void keepEarlier() {
            earlier.add(new ArrayList<>(asked));
            if (earlier.size() > 8) {
                earlier.remove(0);
            }
        }

        int ask(int q, int answer) {
            if (!isQuestion(q) || answer < 0 || answer > 15) {
                return bad();
            }
            if (asked.size() == 8) {
                return full();
            }
            keepEarlier();
            asked.add(new int[] {q, answer});
            return left();
        }

        int forget() {
            if (asked.isEmpty()) {
                return no();
            }
            keepEarlier();
            asked.remove(0);
            return asked.size();
        }

        int undo() {
            if (earlier.isEmpty()) {
                return no();
            }
            asked = earlier.remove(earlier.size() - 1);
            return asked.size();
        }

        int of(int q, int what) {
            return !isQuestion(q) || what < 0 || what > 2 ? bad() : questions.get(q)[what];
        }

        int answer(int q, int x) {
            return !isQuestion(q) || !isCase(x) ? bad() : says(q, x);
        }

        static List<Integer> members(int bits) {
            List<Integer> all = new ArrayList<>();
            for (int x = 0; x < 31; x++) {
                if ((bits >> x & 1) == 1) {
                    all.add(x);
                }
            }
            return all;
        }

        /** The parts by the ANSWER, in the order of their first CASES. */
        Map<Integer, Integer> parts(int q, int bits) {
            Map<Integer, Integer> all = new LinkedHashMap<>();
            for (int x : members(bits)) {
                all.merge(says(q, x), 1 << x, (a, b) -> a | b);
            }
            return all;
        }

        int weightOf(int bits) {
            int sum = 0;
            for (int x : members(bits)) {
                sum += weights[x];
            }
            return sum;
        }

        int cuts(int q, int what) {
            if (!isQuestion(q) || what < 0 || what > 2) {
                return bad();
            }
            int greatest = 0;
            int lightest = left() == 0 ? 0 : Integer.MAX_VALUE;
            Map<Integer, Integer> all = parts(q, left());
            for (int part : all.values()) {
                greatest = Math.max(greatest, Integer.bitCount(part));
                lightest = Math.min(lightest, weightOf(part));
            }
            return what == 0 ? greatest : what == 1 ? all.size() : lightest;
        }

        int empty() {
            int bits = 0;
            for (int q = 0; q < questions.size(); q++) {
                bits |= parts(q, left()).size() < 2 ? 1 << q : 0;
            }
            return bits;
        }

        int same(int k) {
            if (k < -1) {
                return bad(-10);
            }
            List<Integer> pairs = new ArrayList<>();
            for (int i = 0; i < questions.size(); i++) {
                for (int j = i + 1; j < questions.size(); j++) {
                    Set<Integer> one = new HashSet<>(parts(i, left()).values());
                    Set<Integer> other = new HashSet<>(parts(j, left()).values());
                    if (one.equals(other)) {
                        pairs.add(10 * i + j);
                    }
                }
            }
            return k == -1 ? pairs.size() : k < pairs.size() ? pairs.get(k) : -5;
        }

        int best() {
            if (left() == 0) {
                return -1;
            }
            int found = -1;
            int key = Integer.MAX_VALUE;
            for (int q = 0; q < questions.size(); q++) {
                int its = cuts(q, 0) * 1000 + pence(q);
                if (its < key) {
                    key = its;
                    found = q;
                }
            }
            return found;
        }

        boolean partsAll(int set) {
            Set<String> seen = new HashSet<>();
            for (int x : members(left())) {
                StringBuilder answers = new StringBuilder();
                for (int q : members(set)) {
                    answers.append(says(q, x)).append(' ');
                }
                if (!seen.add(answers.toString())) {
                    return false;
                }
            }
            return true;
        }

        int penceOf(int set) {
            int sum = 0;
            for (int q : members(set)) {
                sum += pence(q);
            }
            return sum;
        }

        int cheapest(List<Integer> sets) {
            int found = -1;
            for (int set : sets) {
                if (found < 0 || penceOf(set) < penceOf(found)
                        || penceOf(set) == penceOf(found) && Integer.bitCount(set) < Integer.bitCount(found)) {
                    found = set;
                }
            }
            return found;
        }

        List<Integer> partingSets() {
            List<Integer> sets = new ArrayList<>();
            for (int set = 0; set < 1 << questions.size(); set++) {
                if (partsAll(set)) {
                    sets.add(set);
                }
            }
            return sets;
        }

        int atOnce(int what) {
            if (what < 0 || what > 1) {
                return bad();
            }
            int set = cheapest(partingSets());
            return what == 0 || set < 0 ? set : penceOf(set);
        }

        int haggle(int q) {
            if (!isQuestion(q)) {
                return bad();
            }
            List<Integer> sets = partingSets();
            int told = pence(q);
            int found = -1;
            for (int p = 0; p <= 99; p++) {
                questions.get(q)[2] = p;
                int set = cheapest(sets);
                if (set >= 0 && (set >> q & 1) == 1) {
                    found = p;
                }
            }
            questions.get(q)[2] = told;
            return found;
        }

        /** PENCE, first, how many, of each set of CASES that comes up; null: it can not be known. */
        int[] planOf(int bits, Map<Integer, int[]> known) {
            if (Integer.bitCount(bits) <= 1) {
                return new int[] {0, -1, 0};
            }
            if (known.containsKey(bits)) {
                return known.get(bits);
            }
            int[] found = null;
            for (int q = 0; q < questions.size(); q++) {
                Map<Integer, Integer> all = parts(q, bits);
                boolean can = all.size() > 1;
                int worst = 0;
                int turns = 0;
                if (can) {
                    for (int part : all.values()) {
                        int[] behind = planOf(part, known);
                        can = can && behind != null;
                        worst = behind == null ? worst : Math.max(worst, behind[0]);
                        turns = behind == null ? turns : Math.max(turns, behind[2]);
                    }
                }
                if (can && (found == null || pence(q) + worst < found[0])) {
                    found = new int[] {pence(q) + worst, q, 1 + turns};
                }
            }
            known.put(bits, found);
            return found;
        }

        int oneByOne(int what) {
            if (what < 0 || what > 2) {
                return bad();
            }
            int[] plan = planOf(left(), new HashMap<>());
            return plan == null ? -1 : plan[what];
        }

        int knows(int x, int s, int what) {
            if (!isCase(x) || s < 0 || s >= 1 << n || what < 0 || what > 1 || (s >> x & 1) == 0) {
                return bad(-10);
            }
            int sets = 0;
            int all = -1;
            for (int set = 0; set < 1 << questions.size(); set++) {
                int left = 0;
                for (int y = 0; y < n; y++) {
                    boolean alike = true;
                    for (int q : members(set)) {
                        alike = alike && says(q, x) == says(q, y);
                    }
                    left |= alike ? 1 << y : 0;
                }
                if (left == s) {
                    all = sets == 0 ? set : all & set;
                    sets++;
                }
            }
            return what == 0 ? sets : all;
        }

        int parted(int q) {
            if (q < -1 || q >= questions.size()) {
                return bad(-10);
            }
            int pairs = 0;
            for (int x : members(left())) {
                for (int y : members(left())) {
                    boolean apart = false;
                    for (int one = 0; one < questions.size(); one++) {
                        apart = apart || (q == -1 || q == one) && says(one, x) != says(one, y);
                    }
                    pairs += x < y && apart ? 1 : 0;
                }
            }
            return pairs;
        }

        /** All PENCE times WEIGHT of a row, CASE by CASE. */
        int paidInAll(String row) {
            int sum = 0;
            for (int x : members(left())) {
                int still = left();
                for (int i = 0; i < row.length() && Integer.bitCount(still) > 1; i++) {
                    int q = row.charAt(i) - '1';
                    sum += weights[x] * pence(q);
                    still = parts(q, still).get(says(q, x));
                }
            }
            return sum;
        }

        void becomes(long newAbove, long newBelow) {
            long common = java.math.BigInteger.valueOf(newAbove).gcd(java.math.BigInteger.valueOf(newBelow)).longValue();
            above = newAbove / common;
            below = newBelow / common;
        }

        int row(int row) {
            String figures = row == 0 ? "" : String.valueOf(row);
            if (!figures.matches("[1-7]{0,7}")) {
                return bad();
            }
            for (int i = 0; i < figures.length(); i++) {
                if (!isQuestion(figures.charAt(i) - '1')) {
                    return bad();
                }
            }
            if (left() == 0) {
                return no();
            }
            becomes(paidInAll(figures), weightOf(left()));
            return 1;
        }

        void allRows(String row, List<String> into) {
            if (row.length() == questions.size()) {
                into.add(row);
            }
            for (int q = 1; q <= questions.size(); q++) {
                if (row.indexOf((char) ('0' + q)) < 0) {
                    allRows(row + q, into);
                }
            }
        }

        int bestRow() {
            if (left() == 0) {
                return no();
            }
            List<String> rows = new ArrayList<>();
            allRows("", rows);
            String found = null;
            int least = 0;
            for (String row : rows) {
                int paid = paidInAll(row);
                if (found == null || paid < least) {
                    found = row;
                    least = paid;
                }
            }
            becomes(least, weightOf(left()));
            return found.isEmpty() ? 0 : Integer.parseInt(found);
        }

        int stalls(int seed, int m) {
            if (seed < 0 || seed > 999999 || m < 0 || m > 60) {
                return bad();
            }
            if (left() == 0 || questions.isEmpty()) {
                return no();
            }
            long x = seed;
            int paid = 0;
            for (int time = 0; time < m; time++) {
                int still = left();
                x = (x * 1103515245L + 12345) % 2147483648L;
                int truth = members(still).get((int) (x / 65536 % members(still).size()));
                for (int drawn = 0; drawn < 12 && Integer.bitCount(still) > 1; drawn++) {
                    x = (x * 1103515245L + 12345) % 2147483648L;
                    int q = (int) (x / 65536 % questions.size());
                    paid += pence(q);
                    still = parts(q, still).get(says(q, truth));
                }
            }
            return paid;
        }

        long part(int what) {
            return what == 0 ? above : what == 1 ? below : bad();
        }

        int image(int i) {
            if (i < 0 || i > 1) {
                return bad();
            }
            images[i] = new Model();
            images[i].copyKept(this);
            return 1;
        }

        int from(int i) {
            if (i < 0 || i > 1) {
                return bad();
            }
            if (images[i] == null) {
                return no();
            }
            copyKept(images[i]);
            return 1;
        }

        int status(int what) {
            return what < 0 || what > 2 ? bad(-1) : refused[what];
        }

        int count(int what) {
            int[] all = {n, questions.size(), asked.size(), Integer.bitCount(left()), earlier.size(), text.length()};
            return what < 0 || what > 5 ? bad() : all[what];
        }

        long digest() {
            List<Long> all = new ArrayList<>();
            for (int what = 0; what < 6; what++) {
                all.add((long) count(what));
            }
            for (int x = 0; x < n; x++) {
                all.add((long) weights[x]);
            }
            for (int[] q : questions) {
                for (int v : q) {
                    all.add((long) v);
                }
            }
            for (int[] one : asked) {
                for (int v : one) {
                    all.add((long) v);
                }
            }
            all.add(above);
            all.add(below);
            long h = 1091;
            for (long v : all) {
                h = 31 * h + v;
            }
            return h;
        }
    }

    private static final class Pair {
        final QuestionFair fair = new QuestionFair();
        final Model model = new Model();
        final List<String> calls = new ArrayList<>();

        boolean due(String call, long got, long want) {
            calls.add(call + " = " + got);
            if (got == want) {
                return true;
            }
            wrong++;
            System.out.println(call + " answered " + got + ", the model says " + want);
            System.out.println("  behind " + calls);
            return false;
        }

        boolean one(String name, int[] a) {
            String call = name + java.util.Arrays.toString(a).replace('[', '(').replace(']', ')');
            switch (name) {
                case "fair": return due(call, fair.fair(a[0]), model.fair(a[0]));
                case "weigh": return due(call, fair.weigh(a[0], a[1]), model.weigh(a[0], a[1]));
                case "question": return due(call, fair.question(a[0], a[1], a[2]), model.question(a[0], a[1], a[2]));
                case "price": return due(call, fair.price(a[0], a[1]), model.price(a[0], a[1]));
                case "type": return due(call, fair.type(a[0]), model.type(a[0]));
                case "clear": return due(call, fair.clear(), model.clear());
                case "read": return due(call, fair.read(), model.read());
                case "ask": return due(call, fair.ask(a[0], a[1]), model.ask(a[0], a[1]));
                case "forget": return due(call, fair.forget(), model.forget());
                case "undo": return due(call, fair.undo(), model.undo());
                case "of": return due(call, fair.of(a[0], a[1]), model.of(a[0], a[1]));
                case "answer": return due(call, fair.answer(a[0], a[1]), model.answer(a[0], a[1]));
                case "left": return due(call, fair.left(), model.left());
                case "cuts": return due(call, fair.cuts(a[0], a[1]), model.cuts(a[0], a[1]));
                case "empty": return due(call, fair.empty(), model.empty());
                case "same": return due(call, fair.same(a[0]), model.same(a[0]));
                case "best": return due(call, fair.best(), model.best());
                case "atOnce": return due(call, fair.atOnce(a[0]), model.atOnce(a[0]));
                case "oneByOne": return due(call, fair.oneByOne(a[0]), model.oneByOne(a[0]));
                case "oneWrong": return due(call, fair.oneWrong(), model.oneWrong());
                case "knows": return due(call, fair.knows(a[0], a[1], a[2]), model.knows(a[0], a[1], a[2]));
                case "parted": return due(call, fair.parted(a[0]), model.parted(a[0]));
                case "row": return due(call, fair.row(a[0]), model.row(a[0]));
                case "bestRow": return due(call, fair.bestRow(), model.bestRow());
                case "haggle": return due(call, fair.haggle(a[0]), model.haggle(a[0]));
                case "stalls": return due(call, fair.stalls(a[0], a[1]), model.stalls(a[0], a[1]));
                case "part": return due(call, fair.part(a[0]), model.part(a[0]));
                case "image": return due(call, fair.image(a[0]), model.image(a[0]));
                case "from": return due(call, fair.from(a[0]), model.from(a[0]));
                case "status": return due(call, fair.status(a[0]), model.status(a[0]));
                case "count": return due(call, fair.count(a[0]), model.count(a[0]));
                case "digest": return due(call, fair.digest(), model.digest());
                default: throw new IllegalStateException(name);
            }
        }
    }

    /** Chooses calls so that full states come up, and wrong numbers now and then. */
    private static final class Chooser {
        final Random random;
        final Pair pair = new Pair();
        final boolean cheap;
        int calls = 0;
        boolean fine = true;

        Chooser(long seed) {
            random = new Random(seed);
            cheap = random.nextBoolean();
        }

        int wild(int low, int high) {
            int r = random.nextInt(40);
            if (r == 0) {
                return low - 1;
            }
            if (r == 1) {
                return high + 1;
            }
            if (r == 2) {
                return random.nextInt();
            }
            return low + random.nextInt(Math.max(1, high - low + 1));
        }

        int q() {
            return wild(0, pair.model.questions.size() - 1);
        }

        int x() {
            return wild(0, pair.model.n - 1);
        }

        int pence() {
            return cheap ? wild(0, 3) : wild(0, 99);
        }

        void call(String name, int... args) {
            if (fine && calls < CALLS) {
                calls++;
                fine = pair.one(name, args);
            }
        }

        int fittingAnswer(int q) {
            Model model = pair.model;
            if (!model.isQuestion(q) || random.nextInt(4) == 0) {
                return wild(0, 15);
            }
            return model.says(q, random.nextInt(model.n));
        }

        int someRow() {
            int row = 0;
            int figures = random.nextInt(8);
            for (int i = 0; i < figures; i++) {
                row = row * 10 + q() % 10 + 1;
            }
            return random.nextInt(15) == 0 ? random.nextInt() : row;
        }

        int reachedSet(int x) {
            Model model = pair.model;
            int set = random.nextInt(1 << model.questions.size());
            if (!model.isCase(x) || random.nextInt(6) == 0) {
                return wild(0, (1 << model.n) - 1);
            }
            int bits = 0;
            for (int y = 0; y < model.n; y++) {
                boolean alike = true;
                for (int q : Model.members(set)) {
                    alike = alike && model.says(q, x) == model.says(q, y);
                }
                bits |= alike ? 1 << y : 0;
            }
            return bits;
        }

        String blanks() {
            return " ".repeat(random.nextInt(4) == 0 ? random.nextInt(3) : 1);
        }

        String figures(int number) {
            return random.nextInt(12) == 0 ? "0" + number : String.valueOf(number);
        }

        String someText() {
            StringBuilder made = new StringBuilder();
            int n = 1 + random.nextInt(16);
            made.append("fair").append(blanks()).append(figures(n)).append(";");
            int items = random.nextInt(10);
            for (int i = 0; i < items; i++) {
                made.append(random.nextInt(5) == 0 ? " " : "");
                if (random.nextInt(3) == 0) {
                    made.append("case").append(blanks()).append(figures(random.nextInt(n))).append(blanks())
                            .append(figures(1 + random.nextInt(9))).append(";");
                } else {
                    made.append("question").append(blanks()).append(figures(random.nextInt(6))).append(blanks())
                            .append(figures(random.nextInt(16))).append(blanks()).append(figures(random.nextInt(100)))
                            .append(";");
                }
            }
            int spoil = random.nextInt(3);
            String signs = "fair case question ;;0123456789 zA-\n\0~\u007f";
            for (int i = 0; i < spoil; i++) {
                int at = random.nextInt(made.length());
                char sign = signs.charAt(random.nextInt(signs.length()));
                switch (random.nextInt(4)) {
                    case 0: made.setCharAt(at, sign); break;
                    case 1: made.insert(at, sign); break;
                    case 2: made.deleteCharAt(at); break;
                    default: made.setLength(Math.max(1, at)); break;
                }
            }
            return made.toString();
        }

        void readSome() {
            call("clear");
            String text = someText();
            for (int i = 0; i < text.length() && i < 150; i++) {
                call("type", text.charAt(i));
            }
            call("read");
            call("digest");
        }

        void build() {
            call("fair", wild(1, 16));
            int many = random.nextInt(9);
            boolean parting = random.nextBoolean();
            for (int i = 0; i < many; i++) {
                call("question", parting ? wild(2, 4) : wild(0, 5), wild(0, 15), pence());
            }
            int weighed = random.nextInt(9);
            for (int i = 0; i < weighed; i++) {
                call("weigh", x(), wild(1, 9));
            }
        }

        void lookAtAll() {
            call("left");
            call("empty");
            call("best");
            call("oneWrong");
            for (int what = 0; what < 3; what++) {
                call("oneByOne", what);
                call("atOnce", what);
                call("haggle", q());
                call("same", what - 1);
                call("cuts", q(), what);
                call("status", what);
            }
        }

        void any() {
            int q = q();
            int x = x();
            switch (random.nextInt(34)) {
                case 0: if (random.nextInt(4) == 0) { build(); } break;
                case 1: call("weigh", x, wild(1, 9)); break;
                case 2: call("question", wild(0, 5), wild(0, 15), pence()); break;
                case 3: call("price", q, pence()); break;
                case 4: call("type", wild(0, 127)); break;
                case 5: if (random.nextInt(6) == 0) { readSome(); } break;
                case 6: case 7: case 8: call("ask", q, fittingAnswer(q)); break;
                case 9: call("forget"); break;
                case 10: case 11: call("undo"); break;
                case 12: call("of", q, wild(0, 2)); break;
                case 13: call("answer", q, x); break;
                case 14: call("left"); break;
                case 15: call("cuts", q, wild(0, 2)); break;
                case 16: call("empty"); break;
                case 17: call("same", wild(-1, 6)); break;
                case 18: call("best"); break;
                case 19: call("atOnce", wild(0, 1)); break;
                case 20: call("oneByOne", wild(0, 2)); break;
                case 21: call("oneWrong"); break;
                case 22: call("knows", x, reachedSet(x), wild(0, 1)); break;
                case 23: call("parted", wild(-1, pair.model.questions.size() - 1)); break;
                case 24: call("row", someRow()); break;
                case 25: if (random.nextInt(4) == 0) { call("bestRow"); } break;
                case 26: call("haggle", q); break;
                case 27: call("stalls", wild(0, 999999), wild(0, 60)); break;
                case 28: call("part", wild(0, 1)); break;
                case 29: call("image", wild(0, 1)); break;
                case 30: call("from", wild(0, 1)); break;
                case 31: call("status", wild(0, 2)); break;
                case 32: call("count", wild(0, 5)); break;
                default: if (random.nextInt(3) == 0) { lookAtAll(); } break;
            }
            if (random.nextInt(5) == 0) {
                call("digest");
            }
        }

        void run() {
            if (random.nextBoolean()) {
                build();
            } else {
                readSome();
            }
            for (int i = 0; i < CALLS; i++) {
                any();
            }
        }
    }

    public static void main(String[] args) {
        long calls = 0;
        int runs = args.length > 0 ? Integer.parseInt(args[0]) : RUNS;
        for (int run = 0; run < runs && wrong < 5; run++) {
            Chooser chooser = new Chooser(run);
            chooser.run();
            calls += chooser.calls;
        }
        System.out.println(runs + " runs, " + calls + " calls, " + wrong + " wrong");
        if (wrong != 0) {
            System.exit(1);
        }
    }
}
