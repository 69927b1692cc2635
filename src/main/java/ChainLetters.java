/** Letters that live by being copied: their trees, names, habits, nets and boxes. */
public final class ChainLetters {
    public static final int NONE = -1, BAD = -2, NO = -3, FULL = -4;

    private static final int NOT_SO_MANY = -5, BAD_HERE = -10;

    private final Letters letters;
    private final Trees trees;
    private final Names names;
    private final Habits habits;
    private final Askings askings;
    private final Net net;
    private final Box box;
    private final Fraction fraction;

    public ChainLetters() {
        trees = new Trees();
        letters = trees.letters;
        names = new Names();
        habits = new Habits();
        askings = new Askings();
        net = new Net();
        box = new Box();
        fraction = new Fraction();
    }

    // ---- letters, trees

    public int letter(int from, int to) {
        if (!within(from, 0, 99) || !within(to, from, 99)) {
            return BAD;
        }
        if (letters.count >= Letters.MOST) {
            return FULL;
        }
        trees.forget();
        return letters.add(from, to);
    }

    public int form(int letter, int sentence, int form) {
        if (!letters.has(letter) || !within(sentence, 0, 7) || !within(form, NONE, 9)) {
            return BAD_HERE;
        }
        trees.forget();
        return letters.tellForm(letter, sentence, form);
    }

    public int cost(int which, int v) {
        if (!within(which, 0, 4) || !within(v, 0, 9)) {
            return BAD;
        }
        trees.forget();
        return letters.tellCost(which, v);
    }

    public int price(int letter, int way) {
        if (letters.sources(letter, way) == NONE) {
            return NONE;
        }
        letters.refresh();
        return letters.priceOf(letter, way);
    }

    public int least() {
        return trees.leastCost();
    }

    public int way(int letter) {
        if (!letters.has(letter)) {
            return NONE;
        }
        return trees.wayOf(letter);
    }

    public int may(int letter, int way) {
        if (letters.sources(letter, way) == NONE) {
            return BAD;
        }
        return trees.mayHave(letter, way) ? 1 : 0;
    }

    public int sure(int letter) {
        if (!letters.has(letter)) {
            return BAD;
        }
        return trees.waysThatMayBe(letter) == 1 ? 1 : 0;
    }

    public int date(int letter, int what) {
        if (!letters.has(letter) || !within(what, 0, 1)) {
            return BAD;
        }
        return trees.yearOf(letter, what == 1);
    }

    // ---- names, habits, sums

    public int name(int length, int letters) {
        if (!Names.isName(length, letters)) {
            return BAD;
        }
        if (names.count >= Names.MOST) {
            return FULL;
        }
        return names.add(length, letters);
    }

    public int slips(int a, int b) {
        if (!names.has(a) || !names.has(b)) {
            return BAD;
        }
        return names.slipsBetween(a, b);
    }

    public int worn(int a, int b, int what) {
        if (!names.has(a) || !names.has(b) || what < NONE) {
            return BAD_HERE;
        }
        return what == NONE ? names.wornCost(a, b) : names.wornName(a, b, what);
    }

    public int habit(int copies, int v) {
        if (!within(copies, 0, 9) || !within(v, 0, 100)) {
            return BAD;
        }
        return habits.tell(copies, v);
    }

    public int lives() {
        int weights = habits.sumOfWeights();
        int made = habits.sumOfCopies();
        if (weights == 0 || made < weights) {
            return 0;
        }
        return made > weights ? 2 : 1;
    }

    public int mean() {
        int weights = habits.sumOfWeights();
        if (weights == 0) {
            return NO;
        }
        fraction.become(habits.sumOfCopies(), weights);
        return 1;
    }

    public int gone(int n) {
        if (!within(n, 0, 3)) {
            return BAD;
        }
        if (habits.sumOfWeights() == 0) {
            return NO;
        }
        habits.chanceGone(n, fraction);
        return 1;
    }

    public int asking(int a, int c, int b) {
        if (!within(a, 1, 9) || !within(b, 1, 100) || !within(c, 0, b)) {
            return BAD;
        }
        askings.tell(a, c, b);
        return 1;
    }

    public int best(int what) {
        if (!within(what, 0, 1)) {
            return BAD;
        }
        int a = askings.bestCopies();
        if (what == 0) {
            return a;
        }
        fraction.become(a * askings.doing(a), askings.asked(a));
        return 1;
    }

    public long round(int a, int r) {
        if (!within(a, 1, 9) || !within(r, 0, 18)) {
            return NONE;
        }
        long sent = 1;
        for (int i = 0; i < r; i++) {
            sent *= a;
        }
        return sent;
    }

    public int outrun(int a, long people) {
        if (!within(a, 1, 9) || people < 1L || people > 10000000000L) {
            return BAD;
        }
        long sent = 1, all = 0;
        for (int r = 0; r <= 18; r++) {
            all += sent;
            if (all > people) {
                return r;
            }
            sent *= a;
        }
        return NONE;
    }

    // ---- nets, boxes

    public int sends(int person, int others) {
        if (!Net.has(person) || !within(others, 0, Net.ALL)) {
            return BAD;
        }
        return net.tellSends(person, others);
    }

    public int copies(int person, int n, int p, int often) {
        if (!Net.has(person) || !within(n, 0, 9) || !within(p, 0, 100) || !within(often, 1, 9)) {
            return BAD;
        }
        net.tellCopies(person, n, p, often);
        return 1;
    }

    public int run(int person, int lot, int what) {
        if (!Net.has(person) || (what != NONE && !Net.has(what))) {
            return BAD;
        }
        int last = net.goThrough(person, lot);
        return what == NONE ? last : net.daysOf(what);
    }

    public int reach(int person, int told) {
        if (!Net.has(person) || !within(told, 0, Net.ALL)) {
            return BAD;
        }
        net.lookAhead();
        return net.reached(person, told);
    }

    public int stop(int person, int m) {
        if (!Net.has(person) || !within(m, 1, Net.PEOPLE)) {
            return BAD;
        }
        net.lookAhead();
        return net.fewestTold(person, m);
    }

    public int keep(int kind) {
        if (!within(kind, 0, Box.KINDS - 1)) {
            return BAD;
        }
        if (box.count >= Box.MOST) {
            return FULL;
        }
        return box.add(kind);
    }

    public int burn() {
        return box.empty();
    }

    public int hidden() {
        box.tally();
        long f = box.keptOnce, g = box.keptTwice, kinds = box.keptAtAll;
        if (g == 0) {
            fraction.become(2 * kinds + f * (f - 1), 2);
        } else {
            fraction.become(2 * g * kinds + f * f, 2 * g);
        }
        return 1;
    }

    public int sign(int what) {
        switch (what) {
            case 0: return fraction.above.size > 0 ? 1 : 0;
            case 1: return fraction.above.size;
            case 2: return fraction.below.size;
            default: return BAD;
        }
    }

    public int limb(int which, int i) {
        if (!within(which, 0, 1) || i < 0) {
            return BAD;
        }
        return which == 0 ? fraction.above.digit(i) : fraction.below.digit(i);
    }

    public int count(int what) {
        switch (what) {
            case 0: return letters.count;
            case 1: return letters.sentencesOfAll();
            case 2: return names.count;
            case 3: return box.count;
            default: return BAD;
        }
    }

    public long digest() {
        long h = 457;
        for (int what = 0; what <= 3; what++) {
            h = 31 * h + count(what);
        }
        h = letters.foldInto(h);
        h = names.foldInto(h);
        h = habits.foldInto(h);
        h = askings.foldInto(h);
        h = net.foldInto(h);
        h = box.foldInto(h);
        h = 31 * h + least();
        for (int what = 0; what <= 2; what++) {
            h = 31 * h + sign(what);
        }
        h = fraction.above.foldInto(h);
        return fraction.below.foldInto(h);
    }

    private static boolean within(int v, int low, int high) {
        return v >= low && v <= high;
    }

    /** The letters as they are told, and what each way costs each of them by itself. */
    private static final class Letters {
        static final int MOST = 8, SENTENCES = 8, WAYS = 532;
        private static final int JOINED = 20;
        private static final int DROP = 0, WEAR = 1, HOP = 2, BEGIN = 3, JOIN = 4;

        int count;
        private final int[] from, to, forms, costs;
        // What a letter's sentences below a cut cost if they are copied from another letter:
        // a row of 9 for each pair, so that every price is a sum of at most three entries.
        private final int[] copied;
        private boolean copiedStands;

        Letters() {
            from = new int[MOST];
            to = new int[MOST];
            forms = new int[MOST * SENTENCES];
            costs = new int[5];
            copied = new int[MOST * MOST * (SENTENCES + 1)];
            for (int i = 0; i < costs.length; i++) {
                costs[i] = 1;
            }
        }

        boolean has(int letter) {
            return letter >= 0 && letter < count;
        }

        int add(int first, int last) {
            if (count >= MOST) {
                return FULL;
            }
            from[count] = first;
            to[count] = last;
            for (int s = 0; s < SENTENCES; s++) {
                forms[count * SENTENCES + s] = NONE;
            }
            copiedStands = false;
            count++;
            return count - 1;
        }

        int firstYear(int letter) {
            return from[letter];
        }

        int lastYear(int letter) {
            return to[letter];
        }

        int tellForm(int letter, int sentence, int form) {
            int was = forms[letter * SENTENCES + sentence];
            forms[letter * SENTENCES + sentence] = form;
            copiedStands = false;
            return was;
        }

        int tellCost(int which, int v) {
            int was = costs[which];
            costs[which] = v;
            copiedStands = false;
            return was;
        }

        /** The letters that a way comes from, as bits; NONE if the letter has no such way. */
        int sources(int letter, int way) {
            if (!has(letter) || way < 0 || way >= WAYS) {
                return NONE;
            }
            if (way == 0) {
                return 0;
            }
            if (way <= MOST) {
                return isOther(letter, way - 1) ? 1 << (way - 1) : NONE;
            }
            if (way < JOINED) {
                return NONE;
            }
            int x = (way - JOINED) >> 6, y = ((way - JOINED) >> 3) & 7, cut = (way - JOINED) & 7;
            if (cut == 0 || x == y || !isOther(letter, x) || !isOther(letter, y)) {
                return NONE;
            }
            return 1 << x | 1 << y;
        }

        private boolean isOther(int letter, int x) {
            return x != letter && x >= 0 && x < count;
        }

        /** What a way that the letter has costs it by itself; the prices are refreshed ahead of it. */
        int priceOf(int letter, int way) {
            if (way == 0) {
                return priceFirst(letter);
            }
            if (way <= MOST) {
                return priceCopied(letter, way - 1);
            }
            int x = (way - JOINED) >> 6, y = ((way - JOINED) >> 3) & 7, cut = (way - JOINED) & 7;
            return priceJoined(letter, x, y, cut);
        }

        int priceFirst(int letter) {
            int there = 0;
            for (int s = 0; s < SENTENCES; s++) {
                if (forms[letter * SENTENCES + s] != NONE) {
                    there++;
                }
            }
            return there * costs[BEGIN];
        }

        int priceCopied(int letter, int x) {
            return copied[(letter * MOST + x) * (SENTENCES + 1) + SENTENCES];
        }

        int priceJoined(int letter, int x, int y, int cut) {
            int ofX = (letter * MOST + x) * (SENTENCES + 1);
            int ofY = (letter * MOST + y) * (SENTENCES + 1);
            return costs[JOIN] + copied[ofX + cut] + copied[ofY + SENTENCES] - copied[ofY + cut];
        }

        /** Makes the prices what they are by the forms and costs told so far. */
        void refresh() {
            if (copiedStands) {
                return;
            }
            for (int newer = 0; newer < count; newer++) {
                for (int older = 0; older < count; older++) {
                    sumUp(newer, older);
                }
            }
            copiedStands = true;
        }

        private void sumUp(int newer, int older) {
            int row = (newer * MOST + older) * (SENTENCES + 1);
            int sum = 0;
            for (int s = 0; s < SENTENCES; s++) {
                copied[row + s] = sum;
                sum += costOfSentence(forms[newer * SENTENCES + s], forms[older * SENTENCES + s]);
            }
            copied[row + SENTENCES] = sum;
        }

        private int costOfSentence(int newer, int older) {
            if (newer == older) {
                return 0;
            }
            if (newer == NONE) {
                return costs[DROP];
            }
            return older == NONE ? costs[HOP] : costs[WEAR];
        }

        int sentencesOfAll() {
            int there = 0;
            for (int i = 0; i < count * SENTENCES; i++) {
                if (forms[i] != NONE) {
                    there++;
                }
            }
            return there;
        }

        long foldInto(long start) {
            long h = start;
            for (int i = 0; i < count; i++) {
                h = 31 * h + from[i];
                h = 31 * h + to[i];
                for (int s = 0; s < SENTENCES; s++) {
                    h = 31 * h + forms[i * SENTENCES + s];
                }
            }
            for (int i = 0; i < costs.length; i++) {
                h = 31 * h + costs[i];
            }
            return h;
        }
    }

    /**
     * The trees of the letters. A tree has no circle just if its letters can be put in a row in
     * which each comes behind those it came from: so the sums here go over sets of letters that
     * stand ahead in such a row.
     */
    private static final class Trees {
        private static final int SETS = 1 << Letters.MOST;
        // More than any tree costs, and small enough that some of it may be added up.
        private static final int FAR = 1 << 20;

        final Letters letters;
        // The least price of a letter that stands behind a set: a row of sets for each letter.
        private final int[] steps;
        // The least price of two joined, either way round, for the letter that is looked at.
        private final int[] pairs;
        // For each set: what it costs to build it; to build all the others behind it; and all the
        // others of one letter, if that set must stand ahead of the letter.
        private final int[] built, rest, beside;
        // The sources as bits (NONE: free) and the price to which a letter is held.
        private final int[] held, heldPrice;
        private final int[] ways, early, late;
        private int cost;
        private boolean priced, settled, quarrel;

        Trees() {
            letters = new Letters();
            steps = new int[Letters.MOST * SETS];
            pairs = new int[Letters.MOST * Letters.MOST];
            built = new int[SETS];
            rest = new int[SETS];
            beside = new int[SETS];
            held = new int[Letters.MOST];
            heldPrice = new int[Letters.MOST];
            ways = new int[Letters.MOST];
            early = new int[Letters.MOST];
            late = new int[Letters.MOST];
        }

        void forget() {
            priced = false;
            settled = false;
        }

        int leastCost() {
            if (!priced) {
                letters.refresh();
                for (int letter = 0; letter < letters.count; letter++) {
                    fillSteps(letter);
                }
                freeAll();
                fillBuilt();
                cost = built[everyone()];
                priced = true;
            }
            return cost;
        }

        int wayOf(int letter) {
            settle();
            return ways[letter];
        }

        boolean mayHave(int letter, int way) {
            leastCost();
            freeAll();
            weigh(letter);
            return fits(letter, way);
        }

        int waysThatMayBe(int letter) {
            leastCost();
            freeAll();
            weigh(letter);
            int found = 0;
            for (int way = 0; way < Letters.WAYS; way++) {
                if (fits(letter, way)) {
                    found++;
                }
            }
            return found;
        }

        int yearOf(int letter, boolean last) {
            settle();
            if (quarrel) {
                return NONE;
            }
            return last ? late[letter] : early[letter];
        }

        private int everyone() {
            return (1 << letters.count) - 1;
        }

        private void freeAll() {
            for (int i = 0; i < held.length; i++) {
                held[i] = NONE;
            }
        }

        private void fillSteps(int letter) {
            fillPairs(letter);
            int all = everyone(), row = letter * SETS;
            steps[row] = letters.priceFirst(letter);
            for (int set = 1; set <= all; set++) {
                if ((set >> letter & 1) != 0) {
                    continue;
                }
                // What is new by the lowest one: a copy of it, or it joined with another of the set.
                int x = lowestOf(set);
                int without = set & ~(1 << x);
                int least = Math.min(steps[row + without], letters.priceCopied(letter, x));
                for (int y = x + 1; y < letters.count; y++) {
                    if ((set >> y & 1) != 0) {
                        least = Math.min(least, pairs[x * Letters.MOST + y]);
                    }
                }
                steps[row + set] = least;
            }
        }

        private int lowestOf(int set) {
            for (int x = 0; x < letters.count; x++) {
                if ((set >> x & 1) != 0) {
                    return x;
                }
            }
            return 0;
        }

        private void fillPairs(int letter) {
            for (int x = 0; x < letters.count; x++) {
                for (int y = x + 1; y < letters.count; y++) {
                    if (x == letter || y == letter) {
                        continue;
                    }
                    int least = FAR;
                    for (int cut = 1; cut < Letters.SENTENCES; cut++) {
                        least = Math.min(least, letters.priceJoined(letter, x, y, cut));
                        least = Math.min(least, letters.priceJoined(letter, y, x, cut));
                    }
                    pairs[x * Letters.MOST + y] = least;
                }
            }
        }

        private int stepBehind(int letter, int set) {
            if (held[letter] == NONE) {
                return steps[letter * SETS + set];
            }
            return (held[letter] & set) == held[letter] ? heldPrice[letter] : FAR;
        }

        private void fillBuilt() {
            int all = everyone();
            built[0] = 0;
            for (int set = 1; set <= all; set++) {
                int least = FAR;
                for (int i = 0; i < letters.count; i++) {
                    if ((set >> i & 1) != 0) {
                        int without = set ^ 1 << i;
                        least = Math.min(least, built[without] + stepBehind(i, without));
                    }
                }
                built[set] = least;
            }
        }

        private void fillRest() {
            int all = everyone();
            rest[all] = 0;
            for (int set = all - 1; set >= 0; set--) {
                int least = FAR;
                for (int i = 0; i < letters.count; i++) {
                    if ((set >> i & 1) == 0) {
                        least = Math.min(least, stepBehind(i, set) + rest[set | 1 << i]);
                    }
                }
                rest[set] = least;
            }
        }

        /** Makes ready what all others cost, held as they are, for each set ahead of a letter. */
        private void weigh(int letter) {
            fillBuilt();
            fillRest();
            int all = everyone(), own = 1 << letter;
            for (int set = 0; set <= all; set++) {
                beside[set] = (set & own) != 0 ? FAR : built[set] + rest[set | own];
            }
            for (int i = 0; i < letters.count; i++) {
                for (int set = 0; set <= all; set++) {
                    if ((set >> i & 1) == 0) {
                        beside[set] = Math.min(beside[set], beside[set | 1 << i]);
                    }
                }
            }
        }

        private boolean fits(int letter, int way) {
            int set = letters.sources(letter, way);
            return set != NONE && beside[set] + letters.priceOf(letter, way) == cost;
        }

        /** The least row of ways: letter by letter the least way, held for all behind it. */
        private void settle() {
            if (settled) {
                return;
            }
            leastCost();
            freeAll();
            for (int letter = 0; letter < letters.count; letter++) {
                weigh(letter);
                int way = leastWayThatFits(letter);
                ways[letter] = way;
                held[letter] = letters.sources(letter, way);
                heldPrice[letter] = letters.priceOf(letter, way);
            }
            datesOfTheHeld();
            settled = true;
        }

        private int leastWayThatFits(int letter) {
            for (int way = 0; way < Letters.WAYS; way++) {
                if (fits(letter, way)) {
                    return way;
                }
            }
            return 0;
        }

        private void datesOfTheHeld() {
            for (int i = 0; i < letters.count; i++) {
                early[i] = letters.firstYear(i);
                late[i] = letters.lastYear(i);
            }
            // Each time the years go one step of the tree on: no row of steps is longer.
            for (int time = 0; time < letters.count; time++) {
                for (int i = 0; i < letters.count; i++) {
                    pushYears(i);
                }
            }
            quarrel = false;
            for (int i = 0; i < letters.count; i++) {
                quarrel = quarrel || early[i] > late[i];
            }
        }

        private void pushYears(int newer) {
            for (int older = 0; older < letters.count; older++) {
                if ((held[newer] >> older & 1) != 0) {
                    early[newer] = Math.max(early[newer], early[older]);
                    late[older] = Math.min(late[older], late[newer]);
                }
            }
        }
    }

    /** The names, the slips between them, and how one is worn into another. */
    private static final class Names {
        static final int MOST = 10;
        private static final int LONGEST = 6, BASE = 27;
        // What a step adds to a way's weight beside its cost, so that fewer steps weigh less.
        private static final int STEP = 1, COST = 16;

        int count;
        private final int[] lengths, told, digits, slipped, weights, ahead, row;

        Names() {
            lengths = new int[MOST];
            told = new int[MOST];
            digits = new int[MOST * LONGEST];
            slipped = new int[MOST * MOST];
            weights = new int[MOST];
            ahead = new int[LONGEST + 1];
            row = new int[LONGEST + 1];
        }

        static boolean isName(int length, int letters) {
            if (length < 1 || length > LONGEST || letters < 0) {
                return false;
            }
            int left = letters;
            for (int i = 0; i < length; i++) {
                if (left % BASE == 0) {
                    return false;
                }
                left /= BASE;
            }
            return left == 0;
        }

        boolean has(int name) {
            return name >= 0 && name < count;
        }

        int add(int length, int letters) {
            if (count >= MOST || length < 1 || length > LONGEST) {
                return FULL;
            }
            lengths[count] = length;
            told[count] = letters;
            int left = letters;
            for (int i = length - 1; i >= 0; i--) {
                digits[count * LONGEST + i] = left % BASE;
                left /= BASE;
            }
            for (int other = 0; other < count; other++) {
                int slips = compare(count, other);
                slipped[count * MOST + other] = slips;
                slipped[other * MOST + count] = slips;
            }
            count++;
            return count - 1;
        }

        int slipsBetween(int a, int b) {
            return slipped[a * MOST + b];
        }

        private int compare(int a, int b) {
            int ofA = a * LONGEST, ofB = b * LONGEST;
            for (int j = 0; j <= lengths[b]; j++) {
                row[j] = j;
            }
            for (int i = 1; i <= lengths[a]; i++) {
                for (int j = 0; j <= lengths[b]; j++) {
                    ahead[j] = row[j];
                }
                row[0] = i;
                for (int j = 1; j <= lengths[b]; j++) {
                    int change = digits[ofA + i - 1] == digits[ofB + j - 1] ? 0 : 1;
                    int oneOnly = Math.min(ahead[j], row[j - 1]) + 1;
                    row[j] = Math.min(oneOnly, ahead[j - 1] + change);
                }
            }
            return row[lengths[b]];
        }

        private int weightOfStep(int a, int b) {
            int slips = slipped[a * MOST + b];
            return slips * slips * COST + STEP;
        }

        int wornCost(int a, int b) {
            weighTo(b);
            return weights[a] / COST;
        }

        int wornName(int a, int b, int i) {
            weighTo(b);
            int at = a;
            for (int gone = 0; gone < i && gone < MOST; gone++) {
                int next = nextFrom(at);
                if (next == NONE) {
                    return NOT_SO_MANY;
                }
                at = next;
            }
            return at;
        }

        /** For each name the least weight of a way to b: no way that is least has over 9 steps. */
        private void weighTo(int b) {
            for (int name = 0; name < count; name++) {
                weights[name] = name == b ? 0 : weightOfStep(name, b);
            }
            for (int time = 0; time < count; time++) {
                for (int name = 0; name < count; name++) {
                    for (int next = 0; next < count; next++) {
                        weights[name] = Math.min(weights[name], weightOfStep(name, next) + weights[next]);
                    }
                }
            }
        }

        private int nextFrom(int at) {
            for (int next = 0; next < count; next++) {
                if (weightOfStep(at, next) + weights[next] == weights[at]) {
                    return next;
                }
            }
            return NONE;
        }

        long foldInto(long start) {
            long h = start;
            for (int i = 0; i < count; i++) {
                h = 31 * h + lengths[i];
                h = 31 * h + told[i];
            }
            return h;
        }
    }

    /** How many copies one makes of a letter, and how soon a letter is gone by that. */
    private static final class Habits {
        private static final int MOST_COPIES = 9;

        private final int[] weights;
        // The chance, above and below, and what the next round's chance is summed up in.
        private final Natural above, below, sum, power, product;

        Habits() {
            weights = new int[MOST_COPIES + 1];
            above = new Natural();
            below = new Natural();
            sum = new Natural();
            power = new Natural();
            product = new Natural();
        }

        int tell(int copies, int v) {
            int was = weights[copies];
            weights[copies] = v;
            return was;
        }

        int sumOfWeights() {
            int all = 0;
            for (int k = 0; k <= MOST_COPIES; k++) {
                all += weights[k];
            }
            return all;
        }

        int sumOfCopies() {
            int all = 0;
            for (int k = 0; k <= MOST_COPIES; k++) {
                all += k * weights[k];
            }
            return all;
        }

        void chanceGone(int rounds, Fraction into) {
            int all = sumOfWeights();
            above.become(0);
            below.become(1);
            for (int i = 0; i < rounds; i++) {
                goRound(all);
                reduce(all);
            }
            into.take(above, below);
        }

        /** One round ahead: each of k copies must be gone by the chance so far, by itself. */
        private void goRound(int all) {
            sum.become(weights[MOST_COPIES]);
            power.become(1);
            for (int k = MOST_COPIES - 1; k >= 0; k--) {
                product.multiply(sum, above);
                sum.take(product);
                product.multiply(power, below);
                power.take(product);
                sum.addTimes(power, weights[k]);
            }
            above.take(sum);
            product.become(all);
            below.multiply(power, product);
        }

        /** What is below is a product of weights' sums: it shares nothing else with what is above. */
        private void reduce(int all) {
            if (above.size == 0) {
                below.become(1);
                return;
            }
            for (int time = 0; time < 10000; time++) {
                long shared = Fraction.shared(above.leftOver(all), below.leftOver(all));
                int by = (int) Fraction.shared(shared, all);
                if (by <= 1) {
                    return;
                }
                above.divide(by);
                below.divide(by);
            }
        }

        long foldInto(long start) {
            long h = start;
            for (int k = 0; k <= MOST_COPIES; k++) {
                h = 31 * h + weights[k];
            }
            return h;
        }
    }

    /** Of how many people how many do it, if they are asked for so many copies. */
    private static final class Askings {
        private static final int MOST_COPIES = 9;

        private final int[] doing, asked;

        Askings() {
            doing = new int[MOST_COPIES + 1];
            asked = new int[MOST_COPIES + 1];
            for (int a = 0; a <= MOST_COPIES; a++) {
                asked[a] = 1;
            }
        }

        void tell(int a, int c, int b) {
            doing[a] = c;
            asked[a] = b;
        }

        int doing(int a) {
            return doing[a];
        }

        int asked(int a) {
            return asked[a];
        }

        int bestCopies() {
            int best = 1;
            for (int a = 2; a <= MOST_COPIES; a++) {
                if (a * doing[a] * asked[best] > best * doing[best] * asked[a]) {
                    best = a;
                }
            }
            return best;
        }

        long foldInto(long start) {
            long h = start;
            for (int a = 1; a <= MOST_COPIES; a++) {
                h = 31 * h + doing[a];
                h = 31 * h + asked[a];
            }
            return h;
        }
    }

    /** The people, to whom they send, and how a letter goes through them. */
    private static final class Net {
        static final int PEOPLE = 10, ALL = (1 << PEOPLE) - 1;
        private static final int DAYS = 60;

        private final int[] others, copies, odds, often;
        // What a run counts: days with a letter and times copied; whom each can reach in one step.
        private final int[] days, times, next;

        Net() {
            others = new int[PEOPLE];
            copies = new int[PEOPLE];
            odds = new int[PEOPLE];
            often = new int[PEOPLE];
            days = new int[PEOPLE];
            times = new int[PEOPLE];
            next = new int[PEOPLE];
            for (int i = 0; i < PEOPLE; i++) {
                often[i] = 1;
            }
        }

        static boolean has(int person) {
            return person >= 0 && person < PEOPLE;
        }

        int tellSends(int person, int bits) {
            int was = others[person];
            others[person] = bits;
            return was;
        }

        void tellCopies(int person, int n, int p, int most) {
            copies[person] = n;
            odds[person] = p;
            often[person] = most;
        }

        int daysOf(int person) {
            return days[person];
        }

        private int getters(int person) {
            int bits = 0, left = copies[person];
            for (int i = 1; i < PEOPLE && left > 0; i++) {
                int other = (person + i) % PEOPLE;
                if ((others[person] >> other & 1) != 0) {
                    bits |= 1 << other;
                    left--;
                }
            }
            return bits;
        }

        /** A run: counts each one's days, and answers the last day on which somebody got one. */
        int goThrough(int person, int firstLot) {
            for (int i = 0; i < PEOPLE; i++) {
                days[i] = i == person ? 1 : 0;
                times[i] = 0;
            }
            int lot = firstLot, having = 1 << person, last = 0;
            for (int day = 1; day <= DAYS && having != 0; day++) {
                int getting = 0;
                for (int i = 0; i < PEOPLE; i++) {
                    if ((having >> i & 1) == 0) {
                        continue;
                    }
                    lot = lot * 1103515245 + 12345;
                    if ((lot >>> 16) % 100 < odds[i] && times[i] < often[i]) {
                        times[i]++;
                        getting |= getters(i);
                    }
                }
                if (getting != 0) {
                    last = day;
                }
                countDay(getting);
                having = getting;
            }
            return last;
        }

        private void countDay(int getting) {
            for (int i = 0; i < PEOPLE; i++) {
                days[i] += getting >> i & 1;
            }
        }

        /** Makes ready whom each one may send to by luck. */
        void lookAhead() {
            for (int i = 0; i < PEOPLE; i++) {
                next[i] = odds[i] > 0 ? getters(i) : 0;
            }
        }

        int reached(int person, int told) {
            int own = 1 << person;
            if ((told & own) != 0) {
                return own;
            }
            int all = own, fresh = own;
            for (int time = 0; time < PEOPLE && fresh != 0; time++) {
                int got = 0;
                for (int i = 0; i < PEOPLE; i++) {
                    if ((fresh >> i & 1) != 0) {
                        got |= next[i];
                    }
                }
                fresh = got & ~all & ~told;
                all |= fresh;
            }
            return all;
        }

        int fewestTold(int person, int m) {
            // Telling one whom no letter reaches anyway helps nothing; telling all others always does.
            int able = reached(person, 0) & ~(1 << person), best = able;
            for (int told = 0; told <= able; told++) {
                if ((told & ~able) != 0 || Integer.bitCount(told) >= Integer.bitCount(best)) {
                    continue;
                }
                if (Integer.bitCount(reached(person, told)) <= m) {
                    best = told;
                }
            }
            return best;
        }

        long foldInto(long start) {
            long h = start;
            for (int i = 0; i < PEOPLE; i++) {
                h = 31 * h + others[i];
                h = 31 * h + copies[i];
                h = 31 * h + odds[i];
                h = 31 * h + often[i];
            }
            return h;
        }
    }

    /** A box of letters that are kept, each of a kind. */
    private static final class Box {
        static final int MOST = 40, KINDS = 100;

        int count;
        int keptAtAll, keptOnce, keptTwice;
        private final int[] kinds, times;

        Box() {
            kinds = new int[MOST];
            times = new int[KINDS];
        }

        int add(int kind) {
            if (count >= MOST) {
                return FULL;
            }
            kinds[count] = kind;
            times[kind]++;
            count++;
            return count;
        }

        int empty() {
            int were = count;
            count = 0;
            for (int kind = 0; kind < KINDS; kind++) {
                times[kind] = 0;
            }
            return were;
        }

        void tally() {
            keptAtAll = 0;
            keptOnce = 0;
            keptTwice = 0;
            for (int kind = 0; kind < KINDS; kind++) {
                keptAtAll += times[kind] > 0 ? 1 : 0;
                keptOnce += times[kind] == 1 ? 1 : 0;
                keptTwice += times[kind] == 2 ? 1 : 0;
            }
        }

        long foldInto(long start) {
            long h = start;
            for (int i = 0; i < count; i++) {
                h = 31 * h + kinds[i];
            }
            return h;
        }
    }

    /** A fraction that is never below 0, in lowest terms. */
    private static final class Fraction {
        final Natural above, below;

        Fraction() {
            above = new Natural();
            below = new Natural();
            below.become(1);
        }

        void become(long top, long bottom) {
            long by = shared(top, bottom);
            if (by == 0 || bottom == 0) {
                return;
            }
            above.become(top / by);
            below.become(bottom / by);
        }

        void take(Natural top, Natural bottom) {
            above.take(top);
            below.take(bottom);
        }

        /** The greatest divisor of both; of 0 and a number that number. */
        static long shared(long a, long b) {
            long x = a, y = b;
            // Euclid's steps on two longs are fewer than a hundred.
            for (int time = 0; time < 100 && y != 0; time++) {
                long left = x % y;
                x = y;
                y = left;
            }
            return x;
        }
    }

    /** A whole number from 0 on: digits to the base 1073741824, the lowest first. */
    private static final class Natural {
        // The greatest number needed is 1000 to the 91st, 907 bits: 31 digits.
        private static final int MOST = 40, BITS = 30, MASK = (1 << BITS) - 1;

        int size;
        private final int[] digits;

        Natural() {
            digits = new int[MOST];
        }

        int digit(int i) {
            return i >= 0 && i < size && i < MOST ? digits[i] : NONE;
        }

        void become(long v) {
            long left = v;
            for (int i = 0; i < MOST; i++) {
                digits[i] = (int) (left & MASK);
                left >>>= BITS;
            }
            trim();
        }

        void take(Natural other) {
            for (int i = 0; i < MOST; i++) {
                digits[i] = other.digits[i];
            }
            size = other.size;
        }

        /** This becomes a times b; it is neither of them itself. */
        void multiply(Natural a, Natural b) {
            for (int i = 0; i < MOST; i++) {
                digits[i] = 0;
            }
            for (int i = 0; i < a.size && i < MOST; i++) {
                long carry = 0;
                for (int j = 0; j <= b.size && i + j < MOST; j++) {
                    long part = j < b.size ? (long) a.digits[i] * b.digits[j] : 0;
                    long sum = part + digits[i + j] + carry;
                    digits[i + j] = (int) (sum & MASK);
                    carry = sum >>> BITS;
                }
            }
            trim();
        }

        void addTimes(Natural a, int factor) {
            long carry = 0;
            for (int i = 0; i < MOST; i++) {
                long sum = (long) a.digits[i] * factor + digits[i] + carry;
                digits[i] = (int) (sum & MASK);
                carry = sum >>> BITS;
            }
            trim();
        }

        int leftOver(int divisor) {
            if (divisor <= 0) {
                return 0;
            }
            long left = 0;
            for (int i = Math.min(size, MOST) - 1; i >= 0; i--) {
                left = (left << BITS | digits[i]) % divisor;
            }
            return (int) left;
        }

        void divide(int divisor) {
            if (divisor <= 0) {
                return;
            }
            long left = 0;
            for (int i = Math.min(size, MOST) - 1; i >= 0; i--) {
                long part = left << BITS | digits[i];
                digits[i] = (int) (part / divisor);
                left = part % divisor;
            }
            trim();
        }

        private void trim() {
            size = 0;
            for (int i = 0; i < MOST; i++) {
                if (digits[i] != 0) {
                    size = i + 1;
                }
            }
        }

        long foldInto(long start) {
            long h = start;
            for (int i = 0; i < size && i < MOST; i++) {
                h = 31 * h + digits[i];
            }
            return h;
        }
    }
}
