import java.util.Arrays;
import java.util.NoSuchElementException;

/** An orchard of shoe trees, told in a small language, and what can be done and asked in it. */
public final class ShoeOrchard {
    public static final int NONE = -1;

    private static final int OTHERS = -2;

    private static final int MOST_SIGNS = 1000;
    private static final int MOST_TREES = 6;
    private static final int MOST_PERSONS = 6;
    private static final int MOST_FROSTS = 12;
    private static final int MOST_LINES = 40;
    private static final int MOST_FELT = 8;
    private static final int MOST_UNDONE = 16;
    private static final int MOST_MARKS = 4;
    private static final int MOST_MENDS = 2;
    private static final int MOST_YEARS = 40;
    private static final int MOST_ODD_YEARS = 6;
    private static final int MOST_STEPS = 99;
    private static final int GREATEST_SEED = 9999;
    private static final int GREATEST_PAY = 9;
    private static final int GREATEST_LAST = 30;
    private static final int GREATEST_TOLD_AGE = 20;
    private static final int GREATEST_AGE = 99;
    private static final int GREATEST_TOLD_FEET = 30;
    private static final int GREATEST_FEET = 40;
    private static final int GREATEST_SIZE = 40;
    private static final int GREATEST_PINCH = 5;
    private static final int GREATEST_NOON = 6;
    private static final int GREATEST_FROST = 3;
    /** A PART that lies within so many of not and ( ) lies too deep. */
    private static final int TOO_DEEP = 5;

    private static final String TREE_KINDS = "brogue boot slipper sandal";
    /** By the KIND of a TREE: the frost that it stands, the road that its pair goes. */
    private static final int[] STANDS = {1, 3, 0, 2};
    private static final int[] ROAD = {3, 2, 0, 1};

    private static final String PERSON_KINDS = "plain child hopper old";
    private static final int CHILD = 1;
    private static final int HOPPER = 2;
    private static final int OLD = 3;

    private static final String ORCHARD_LINES = "tree person pinch noon frost bears";
    private static final int TREE_LINE = 0;
    private static final int PERSON_LINE = 1;
    private static final int PINCH_LINE = 2;
    private static final int NOON_LINE = 3;
    private static final int FROST_LINE = 4;
    private static final int BEARS_LINE = 5;

    private static final String MORNING_LINES = "try share graft prune year";
    private static final int TRY_LINE = 0;
    private static final int SHARE_LINE = 1;
    private static final int GRAFT_LINE = 2;
    private static final int PRUNE_LINE = 3;
    private static final int YEAR_LINE = 4;

    private static final String NO_NAMES = "tree last age person feet pinch noon frost bears try share graft prune year brogue boot slipper sandal plain child hopper old not and or";

    private static final String FACTS = "size years chill date";
    private static final int SIZE_FACT = 0;
    private static final int YEARS_FACT = 1;
    private static final int CHILL_FACT = 2;

    private static final int CANNOT_STAND = 1;
    private static final int NOBODY_TOLD = 2;
    private static final int TOLD_ALREADY = 3;
    private static final int NUMBER_NOT_AS_TOLD = 4;
    private static final int TOO_MANY = 5;

    private final Tape tape = new Tape();
    private final Plan plan = new Plan();
    private final Lines lines = new Lines();
    private final OrchardReader orchardReader = new OrchardReader();
    private final MorningReader morningReader = new MorningReader();
    private final State now = new State(plan);
    /** Where what could be is played through; it means nothing between two calls. */
    private final State trial = new State(plan);
    private final Past past = new Past(plan);
    private final Felt felt = new Felt();
    private final Matching matching = new Matching();
    private final Queue queue = new Queue();
    /** The SIZES of the TREES of the state measured last, NONE for one that does not BEAR. */
    private final int[] sizes = new int[MOST_TREES];
    /** By TREE: the lasts (as bits) by which it would FIT the PERSON who is to be mended for. */
    private final long[] fittingLasts = new long[MOST_TREES];
    private long seed;

    public ShoeOrchard() {
        plan.clear();
        now.begin();
    }

    public int feed(long a, long b, long c) {
        feedBytes(a);
        feedBytes(b);
        feedBytes(c);
        return tape.length;
    }

    public int orchard() {
        int fault = orchardReader.read(tape);
        tape.clear();
        if (fault != 0) {
            return fault;
        }
        plan.copy(orchardReader.plan);
        now.begin();
        lines.clear();
        felt.clear();
        past.forgetAll();
        return 0;
    }

    public int morning() {
        int fault = morningReader.read(tape, plan);
        tape.clear();
        if (fault == 0) {
            lines.copy(morningReader.lines);
        }
        return fault;
    }

    public int tree(int tree, int what) {
        if (!plan.isTree(tree)) {
            return OTHERS;
        }
        switch (what) {
            case 0:
                return plan.treeKind[tree];
            case 1:
                return now.last[tree];
            case 2:
                return now.age[tree];
            case 3:
                return now.sizeOf(tree);
            case 4:
                return now.holders(tree);
            default:
                return OTHERS;
        }
    }

    public int person(int person, int what) {
        if (!plan.isPerson(person)) {
            return OTHERS;
        }
        switch (what) {
            case 0:
                return plan.personKind[person];
            case 1:
                return now.feet[person];
            case 2:
                return now.shod[person];
            case 3:
                return now.tried[person];
            case 4:
                return now.road[person];
            case 5:
                return now.mate[person];
            default:
                return OTHERS;
        }
    }

    public boolean fits(int person, int tree) {
        return now.suits(person, tree);
    }

    public int tryOn(int person, int tree) {
        if (!now.canTry(person, tree)) {
            return NONE;
        }
        past.keep(now);
        return now.attempt(person, tree) ? 1 : 0;
    }

    public boolean share(int person, int other) {
        if (!now.canJoin(person, other)) {
            return false;
        }
        past.keep(now);
        now.join(person, other);
        return true;
    }

    public int graft(int tree, int other) {
        if (!plan.isTree(tree) || !plan.isTree(other) || tree == other) {
            return NONE;
        }
        past.keep(now);
        now.blend(tree, other);
        return now.last[tree];
    }

    public int prune(int tree) {
        if (!plan.isTree(tree)) {
            return NONE;
        }
        past.keep(now);
        now.trim(tree);
        return now.last[tree];
    }

    public int year() {
        past.keep(now);
        now.passYear();
        return now.year;
    }

    public boolean undo() {
        return past.bringBack(now);
    }

    public int judged(int what) {
        if (what < 0 || what > 2) {
            return OTHERS;
        }
        trial.begin();
        int impossible = NONE;
        int pinched = NONE;
        for (int line = 0; line < lines.length; line++) {
            int outcome = lines.carryOut(line, trial);
            if (outcome == Lines.CANNOT_BE && impossible == NONE) {
                impossible = line;
            }
            if (outcome == Lines.PINCHED && pinched == NONE) {
                pinched = line;
            }
        }
        if (what == 0) {
            return impossible;
        }
        return what == 1 ? pinched : trial.allRoad();
    }

    public int fitted(int person) {
        if (!plan.isPerson(person)) {
            return NONE;
        }
        measure(now);
        return fittingTrees(now, person);
    }

    public int wearers(int tree) {
        if (!now.bears(tree)) {
            return NONE;
        }
        return fittingPersons(now.sizeOf(tree));
    }

    public int shoes(int person) {
        return matched(person, false);
    }

    public int roads(int person) {
        return matched(person, true);
    }

    public int order(int what) {
        measure(now);
        queue.begin(plan.noon, plan.trees);
        for (int person = 0; person < plan.persons; person++) {
            if (now.shod[person] == NONE) {
                queue.add(person, now.tried[person], fittingTrees(now, person));
            }
        }
        queue.solve(freeTrees());
        if (what == NONE) {
            return queue.mostShod;
        }
        return what >= 0 && what < queue.length ? queue.bestRow[what] : OTHERS;
    }

    public int mends(int person) {
        if (!plan.isPerson(person)) {
            return NONE;
        }
        findFittingLasts(person);
        trial.copy(now);
        for (int steps = 0; steps <= MOST_MENDS; steps++) {
            if (mendable(steps)) {
                return steps;
            }
        }
        return NONE;
    }

    public int when(int person) {
        if (!plan.isPerson(person)) {
            return NONE;
        }
        trial.copy(now);
        for (int years = 0; years <= MOST_YEARS; years++) {
            measure(trial);
            if (fittingTrees(trial, person) != 0) {
                return years;
            }
            trial.passYear();
        }
        return NONE;
    }

    public int later(int tree, int years) {
        if (!plan.isTree(tree) || years < 0 || years > MOST_YEARS) {
            return NONE;
        }
        trial.copy(now);
        for (int gone = 0; gone < years; gone++) {
            trial.passYear();
        }
        return trial.sizeOf(tree);
    }

    public boolean feel(int tree, boolean fitted) {
        return plan.isTree(tree) && felt.add(tree, fitted);
    }

    public int feet(int what) {
        if (what < 0 || what > 2) {
            return NONE;
        }
        measure(now);
        int number = 0;
        int least = NONE;
        int greatest = NONE;
        for (int feet = 0; feet <= GREATEST_FEET; feet++) {
            if (felt.allows(feet, sizes, plan.pinch)) {
                number++;
                least = least == NONE ? feet : least;
                greatest = feet;
            }
        }
        if (what == 0) {
            return number;
        }
        return what == 1 ? least : greatest;
    }

    public int ask() {
        measure(now);
        int all = 0;
        for (int feet = 0; feet <= GREATEST_FEET; feet++) {
            all += felt.allows(feet, sizes, plan.pinch) ? 1 : 0;
        }
        int found = NONE;
        int least = all;
        for (int tree = 0; tree < plan.trees; tree++) {
            if (sizes[tree] != NONE) {
                int fitting = allowedFeetFitting(sizes[tree]);
                int greater = Math.max(fitting, all - fitting);
                if (greater < least) {
                    least = greater;
                    found = tree;
                }
            }
        }
        return found;
    }

    public int pairs() {
        measure(now);
        int number = 0;
        for (int person = 0; person < plan.persons; person++) {
            int trees = fittingTrees(now, person);
            for (int other = person + 1; other < plan.persons; other++) {
                number += (trees & fittingTrees(now, other)) != 0 ? 1 : 0;
            }
        }
        return number;
    }

    public int idle() {
        measure(now);
        int bits = 0;
        for (int tree = 0; tree < plan.trees; tree++) {
            if (sizes[tree] != NONE && fittingPersons(sizes[tree]) == 0) {
                bits |= 1 << tree;
            }
        }
        return bits;
    }

    public int sole() {
        measure(now);
        int bits = 0;
        for (int person = 0; person < plan.persons; person++) {
            if (Integer.bitCount(fittingTrees(now, person)) == 1) {
                bits |= 1 << person;
            }
        }
        return bits;
    }

    public int twins() {
        measure(now);
        int number = 0;
        for (int tree = 0; tree < plan.trees; tree++) {
            for (int other = tree + 1; other < plan.trees; other++) {
                number += sizes[tree] != NONE && sizes[tree] == sizes[other] ? 1 : 0;
            }
        }
        return number;
    }

    public int best() {
        measure(now);
        int found = NONE;
        int most = NONE;
        for (int tree = 0; tree < plan.trees; tree++) {
            if (sizes[tree] != NONE) {
                int number = Integer.bitCount(fittingPersons(sizes[tree]));
                if (number > most) {
                    most = number;
                    found = tree;
                }
            }
        }
        return found;
    }

    public int lack(int person) {
        if (!plan.isPerson(person)) {
            return NONE;
        }
        measure(now);
        int least = NONE;
        for (int tree = 0; tree < plan.trees; tree++) {
            if (sizes[tree] != NONE) {
                int missing = plan.pinched(person, now.feet[person], sizes[tree]);
                least = least == NONE ? missing : Math.min(least, missing);
            }
        }
        return least;
    }

    public int chance(int person, int years, int odds) {
        boolean asTold = years >= 1 && years <= MOST_ODD_YEARS && odds >= 0 && odds <= 10;
        if (!asTold || !plan.isPerson(person)) {
            return NONE;
        }
        // Only how many of the years were cold matters: each takes 1 of the same lasts.
        int millionths = 0;
        for (int cold = 0; cold <= years; cold++) {
            trial.copy(now);
            for (int gone = 0; gone < years; gone++) {
                trial.passYearOf(gone < cold ? GREATEST_FROST : 0);
            }
            measure(trial);
            if (fittingTrees(trial, person) != 0) {
                millionths += likelihood(cold, years, odds);
            }
        }
        return millionths;
    }

    public int rests(int both, int loses, int gets, int what) throws NoSuchElementException {
        if (!isPay(both) || !isPay(loses) || !isPay(gets)) {
            throw new NoSuchElementException("what one gets or loses is 0 to 9");
        }
        int number = 0;
        for (int choices = 0; choices < 4; choices++) {
            int first = choices / 2;
            int other = choices % 2;
            boolean firstStays = pay(first, other, both, loses, gets) >= pay(1 - first, other, both, loses, gets);
            boolean otherStays = pay(other, first, both, loses, gets) >= pay(1 - other, first, both, loses, gets);
            if (firstStays && otherStays) {
                if (number == what) {
                    return choices;
                }
                number++;
            }
        }
        if (what != NONE) {
            throw new NoSuchElementException("there is no such rest");
        }
        return number;
    }

    public int ages(int seed, int steps, int what) {
        boolean asTold = seed >= 0 && seed <= GREATEST_SEED && steps >= 1 && steps <= MOST_STEPS;
        if (!asTold || what < 0 || what > 2) {
            return NONE;
        }
        this.seed = seed;
        trial.copy(now);
        int shod = 0;
        if (plan.trees > 0 && plan.persons > 0) {
            for (int step = 0; step < steps; step++) {
                shod += stepOfAges() ? 1 : 0;
            }
        }
        if (what == 0) {
            return shod;
        }
        return what == 1 ? trial.year : trial.allRoad() - now.allRoad();
    }

    public boolean mark(int mark, boolean back) {
        if (mark < 0 || mark >= MOST_MARKS) {
            return false;
        }
        if (back) {
            return past.goBack(mark, now, felt);
        }
        past.lay(mark, now, felt);
        return true;
    }

    public int count(int what) {
        switch (what) {
            case 0:
                return plan.trees;
            case 1:
                return plan.persons;
            case 2:
                return plan.pinch;
            case 3:
                return plan.noon;
            case 4:
                return now.year;
            case 5:
                return plan.frostOf(now.year);
            case 6:
                return now.bearingTrees();
            case 7:
                return now.shodPersons();
            case 8:
                return now.allRoad();
            case 9:
                return lines.length;
            case 10:
                return felt.length;
            case 11:
                return past.length;
            case 12:
                return tape.length;
            default:
                return NONE;
        }
    }

    private void feedBytes(long bytes) {
        for (int shift = 56; shift >= 0; shift -= 8) {
            tape.add((int) (bytes >>> shift & 255));
        }
    }

    private void measure(State state) {
        for (int tree = 0; tree < plan.trees; tree++) {
            sizes[tree] = state.sizeOf(tree);
        }
    }

    /** The measured TREES that BEAR and FIT a PERSON, as bits. */
    private int fittingTrees(State state, int person) {
        int bits = 0;
        for (int tree = 0; tree < plan.trees; tree++) {
            if (sizes[tree] != NONE && plan.pinched(person, state.feet[person], sizes[tree]) == 0) {
                bits |= 1 << tree;
            }
        }
        return bits;
    }

    /** The PERSONS whom a SIZE FITS now, as bits. */
    private int fittingPersons(int size) {
        int bits = 0;
        for (int person = 0; person < plan.persons; person++) {
            if (plan.pinched(person, now.feet[person], size) == 0) {
                bits |= 1 << person;
            }
        }
        return bits;
    }

    /** The TREES that BEAR and whose pair nobody has, as bits. */
    private int freeTrees() {
        int bits = now.bearingTrees();
        for (int tree = 0; tree < plan.trees; tree++) {
            if (now.holders(tree) != 0) {
                bits &= ~(1 << tree);
            }
        }
        return bits;
    }

    private int matched(int person, boolean byRoad) {
        if (person != NONE && !plan.isPerson(person)) {
            return OTHERS;
        }
        measure(now);
        int free = freeTrees();
        matching.begin(plan.persons, plan.trees);
        for (int tree = 0; tree < plan.trees; tree++) {
            matching.worth[tree] = byRoad ? plan.roadBy(tree) : 1;
        }
        for (int each = 0; each < plan.persons; each++) {
            boolean waits = now.shod[each] == NONE;
            matching.choices[each] = waits ? fittingTrees(now, each) & free : 0;
        }
        matching.solve();
        return person == NONE ? matching.total : matching.row[person];
    }

    private void findFittingLasts(int person) {
        for (int tree = 0; tree < plan.trees; tree++) {
            fittingLasts[tree] = now.bears(tree) ? lastsThatFit(person, tree) : 0;
        }
    }

    private long lastsThatFit(int person, int tree) {
        long bits = 0;
        for (int last = 0; last <= GREATEST_LAST; last++) {
            int size = plan.sizeBy(last, now.age[tree], now.year);
            if (plan.pinched(person, now.feet[person], size) == 0) {
                bits |= 1L << last;
            }
        }
        return bits;
    }

    /** Whether at most so many GRAFTS and PRUNINGS of the trial let one of its TREES FIT. */
    private boolean mendable(int steps) {
        if (someLastFits()) {
            return true;
        }
        if (steps <= 0) {
            return false;
        }
        for (int tree = 0; tree < plan.trees; tree++) {
            int before = trial.last[tree];
            for (int other = 0; other < plan.trees; other++) {
                if (other == tree) {
                    trial.trim(tree);
                } else {
                    trial.blend(tree, other);
                }
                boolean mended = mendable(steps - 1);
                trial.last[tree] = before;
                if (mended) {
                    return true;
                }
            }
        }
        return false;
    }

    private boolean someLastFits() {
        for (int tree = 0; tree < plan.trees; tree++) {
            if ((fittingLasts[tree] >>> trial.last[tree] & 1) != 0) {
                return true;
            }
        }
        return false;
    }

    /** How many of the feet that all FELT allows a SIZE FITS. */
    private int allowedFeetFitting(int size) {
        int number = 0;
        for (int feet = 0; feet <= GREATEST_FEET; feet++) {
            if (Math.abs(size - feet) <= plan.pinch && felt.allows(feet, sizes, plan.pinch)) {
                number++;
            }
        }
        return number;
    }

    /** That just so many of the years are cold, in millionths. */
    private static int likelihood(int cold, int years, int odds) {
        int ways = 1;
        int value = 1;
        for (int each = 0; each < MOST_ODD_YEARS; each++) {
            if (each < cold) {
                ways = ways * (years - each) / (each + 1);
                value *= odds;
            } else {
                value *= each < years ? 10 - odds : 10;
            }
        }
        return ways * value;
    }

    private static boolean isPay(int pay) {
        return pay >= 0 && pay <= GREATEST_PAY;
    }

    /** What one gets who tries (1) or keeps (0), while the other one tries or keeps. */
    private static int pay(int own, int others, int both, int loses, int gets) {
        if (own == 1) {
            return others == 1 ? both : -loses;
        }
        return others == 1 ? gets : 0;
    }

    /** A step of AGES of the trial; whether one was SHOD by it. */
    private boolean stepOfAges() {
        int person = draw(plan.persons);
        int tree = draw(plan.trees);
        boolean shod = trial.canTry(person, tree) && trial.attempt(person, tree);
        int luck = draw(6);
        if (luck == 0) {
            trial.passYear();
        } else if (luck == 1) {
            int grafted = draw(plan.trees);
            int other = draw(plan.trees);
            if (grafted != other) {
                trial.blend(grafted, other);
            }
        }
        return shod;
    }

    private int draw(int below) {
        seed = (seed * 1103515245L + 12345L) % 2147483648L;
        return below < 1 ? 0 : (int) (seed / 65536L % below);
    }

    /** The signs that were fed, and the token of them that is looked at. */
    private static final class Tape {
        static final int END = 0;
        static final int WORD = 1;
        static final int NUMBER = 2;
        static final int SIGN = 3;
        static final int NO_TOKEN = 4;

        private static final int LONGEST_WORD = 8;
        private static final int LONGEST_NUMBER = 4;

        int length;
        int kind;
        int number;
        /** The letters of a WORD, 5 bits each. */
        long word;
        /** 0, or the first FAULT found. */
        int fault;

        private final char[] signs = new char[MOST_SIGNS];
        private char sign;
        private int place;
        private int behind;

        void add(int sign) {
            boolean known = sign == '\n' || sign >= ' ' && sign <= '~';
            if (known && length < MOST_SIGNS) {
                signs[length] = (char) sign;
                length++;
            }
        }

        void clear() {
            length = 0;
        }

        void beginReading() {
            behind = 0;
            fault = 0;
            next();
        }

        void next() {
            while (behind < length && isBlank(signs[behind])) {
                behind++;
            }
            place = behind;
            if (behind >= length) {
                kind = END;
            } else if (isLetter(signs[behind])) {
                readWord();
            } else if (isDigit(signs[behind])) {
                readNumber();
            } else {
                sign = signs[behind];
                kind = "()<=+-*;".indexOf(sign) >= 0 ? SIGN : NO_TOKEN;
                behind++;
            }
        }

        private void readWord() {
            word = 0;
            while (behind < length && isLetter(signs[behind])) {
                word = word * 32 + (signs[behind] - 'a' + 1);
                behind++;
            }
            kind = behind - place <= LONGEST_WORD ? WORD : NO_TOKEN;
        }

        private void readNumber() {
            number = 0;
            while (behind < length && isDigit(signs[behind])) {
                number = number * 10 + (signs[behind] - '0');
                behind++;
            }
            kind = behind - place <= LONGEST_NUMBER ? NUMBER : NO_TOKEN;
        }

        private static boolean isBlank(char sign) {
            return sign == '\n' || sign == ' ';
        }

        private static boolean isLetter(char sign) {
            return sign >= 'a' && sign <= 'z';
        }

        private static boolean isDigit(char sign) {
            return sign >= '0' && sign <= '9';
        }

        boolean isSign(char wanted) {
            return kind == SIGN && sign == wanted;
        }

        boolean isWord(String wanted) {
            return kind == WORD && isPartOf(wanted, 0, wanted.length());
        }

        boolean isName() {
            return kind == WORD && among(NO_NAMES) == NONE;
        }

        /** Which of some words, parted by single blanks, the token is; NONE: none of them. */
        int among(String words) {
            if (kind != WORD) {
                return NONE;
            }
            int index = 0;
            int from = 0;
            for (int at = 0; at <= words.length(); at++) {
                if (at == words.length() || words.charAt(at) == ' ') {
                    if (isPartOf(words, from, at)) {
                        return index;
                    }
                    index++;
                    from = at + 1;
                }
            }
            return NONE;
        }

        private boolean isPartOf(String text, int from, int to) {
            if (to - from != behind - place) {
                return false;
            }
            for (int i = 0; i < to - from; i++) {
                if (text.charAt(from + i) != signs[place + i]) {
                    return false;
                }
            }
            return true;
        }

        /** Always false, so that a reader can end by it. */
        boolean wrong(int faultKind) {
            if (fault == 0) {
                fault = faultKind + 16 * place;
            }
            return false;
        }

        boolean takeSign(char wanted) {
            if (!isSign(wanted)) {
                return wrong(CANNOT_STAND);
            }
            next();
            return true;
        }

        boolean takeWord(String wanted) {
            if (!isWord(wanted)) {
                return wrong(CANNOT_STAND);
            }
            next();
            return true;
        }

        /** Which of some words was taken; NONE: the token is wrong. */
        int takeAmong(String words) {
            int index = among(words);
            if (index == NONE) {
                wrong(CANNOT_STAND);
            } else {
                next();
            }
            return index;
        }

        /** The NUMBER that was taken; NONE: the token is wrong. */
        int takeNumber(int least, int greatest) {
            if (kind != NUMBER) {
                wrong(CANNOT_STAND);
                return NONE;
            }
            if (number < least || number > greatest) {
                wrong(NUMBER_NOT_AS_TOLD);
                return NONE;
            }
            int taken = number;
            next();
            return taken;
        }
    }

    /** An E as a row of steps on a stack: a NUMBER is itself, all else is below 0. */
    private static final class Formula {
        static final int NOT = -1;
        static final int AND = -2;
        static final int OR = -3;
        static final int LESS = -4;
        static final int EQUAL = -5;
        static final int PLUS = -6;
        static final int MINUS = -7;
        static final int TIMES = -8;
        /** The facts lie from here downwards. */
        static final int FIRST_FACT = -9;

        /** 4 operators may wait at each depth, so this is more than is ever needed. */
        private static final int STACK = 4 * TOO_DEEP + 4;

        private final int[] steps = new int[MOST_SIGNS];
        private final int[] stack = new int[STACK];
        private int length;

        void clear() {
            length = 0;
        }

        void add(int step) {
            if (length < MOST_SIGNS) {
                steps[length] = step;
                length++;
            }
        }

        void copy(Formula other) {
            System.arraycopy(other.steps, 0, steps, 0, other.length);
            length = other.length;
        }

        /** Without steps: the size. */
        int value(int size, int years, int chill, int date) {
            int top = 0;
            stack[0] = size;
            for (int i = 0; i < length; i++) {
                int step = steps[i];
                if (step == NOT && top >= 1) {
                    stack[top - 1] = stack[top - 1] == 0 ? 1 : 0;
                } else if (step < NOT && step > FIRST_FACT && top >= 2) {
                    top--;
                    stack[top - 1] = joined(step, stack[top - 1], stack[top]);
                } else if (top < STACK) {
                    stack[top] = step >= 0 ? step : fact(FIRST_FACT - step, size, years, chill, date);
                    top++;
                }
            }
            return stack[0];
        }

        private static int fact(int fact, int size, int years, int chill, int date) {
            switch (fact) {
                case SIZE_FACT:
                    return size;
                case YEARS_FACT:
                    return years;
                case CHILL_FACT:
                    return chill;
                default:
                    return date;
            }
        }

        private static int joined(int step, int left, int right) {
            switch (step) {
                case AND:
                    return left != 0 && right != 0 ? 1 : 0;
                case OR:
                    return left != 0 || right != 0 ? 1 : 0;
                case LESS:
                    return left < right ? 1 : 0;
                case EQUAL:
                    return left == right ? 1 : 0;
                case PLUS:
                    return left + right;
                case MINUS:
                    return left - right;
                default:
                    return left * right;
            }
        }
    }

    /** An ORCHARD as it was told. */
    private static final class Plan {
        int trees;
        int persons;
        int pinch;
        int noon;
        int frosts;
        final int[] treeKind = new int[MOST_TREES];
        final int[] last = new int[MOST_TREES];
        final int[] age = new int[MOST_TREES];
        final long[] treeName = new long[MOST_TREES];
        final int[] personKind = new int[MOST_PERSONS];
        final int[] feet = new int[MOST_PERSONS];
        final long[] personName = new long[MOST_PERSONS];
        final int[] frost = new int[MOST_FROSTS];
        final Formula formula = new Formula();

        void clear() {
            trees = 0;
            persons = 0;
            pinch = 1;
            noon = 3;
            frosts = 0;
            formula.clear();
        }

        void copy(Plan other) {
            trees = other.trees;
            persons = other.persons;
            pinch = other.pinch;
            noon = other.noon;
            frosts = other.frosts;
            System.arraycopy(other.treeKind, 0, treeKind, 0, MOST_TREES);
            System.arraycopy(other.last, 0, last, 0, MOST_TREES);
            System.arraycopy(other.age, 0, age, 0, MOST_TREES);
            System.arraycopy(other.treeName, 0, treeName, 0, MOST_TREES);
            System.arraycopy(other.personKind, 0, personKind, 0, MOST_PERSONS);
            System.arraycopy(other.feet, 0, feet, 0, MOST_PERSONS);
            System.arraycopy(other.personName, 0, personName, 0, MOST_PERSONS);
            System.arraycopy(other.frost, 0, frost, 0, MOST_FROSTS);
            formula.copy(other.formula);
        }

        boolean isTree(int tree) {
            return tree >= 0 && tree < trees;
        }

        boolean isPerson(int person) {
            return person >= 0 && person < persons;
        }

        int treeNamed(long name) {
            for (int tree = 0; tree < trees; tree++) {
                if (treeName[tree] == name) {
                    return tree;
                }
            }
            return NONE;
        }

        int personNamed(long name) {
            for (int person = 0; person < persons; person++) {
                if (personName[person] == name) {
                    return person;
                }
            }
            return NONE;
        }

        int frostOf(int year) {
            return frosts < 1 || year < 0 ? 0 : frost[year % frosts];
        }

        boolean standsFrost(int tree, int frost) {
            return isTree(tree) && frost <= STANDS[treeKind[tree]];
        }

        int roadBy(int tree) {
            return isTree(tree) ? ROAD[treeKind[tree]] : 0;
        }

        int sizeBy(int last, int age, int year) {
            int value = formula.value(last, age, frostOf(year), year);
            return Math.max(0, Math.min(GREATEST_SIZE, value));
        }

        /** By how much more than may be a SIZE pinches the feet of a PERSON; 0: it FITS. */
        int pinched(int person, int feet, int size) {
            int kind = isPerson(person) ? personKind[person] : 0;
            int apart = Math.abs(size - feet);
            if (kind == HOPPER) {
                apart = Math.min(apart, Math.abs(2 * size - feet));
            }
            int mayPinch = kind == OLD ? pinch + 1 : pinch;
            return Math.max(0, apart - mayPinch);
        }
    }

    /** Reads a TAPE as an ORCHARD into a plan of its own. */
    private static final class OrchardReader {
        final Plan plan = new Plan();

        /** The lines that may stand once and stood already, as bits. */
        private int stood;

        int read(Tape tape) {
            plan.clear();
            stood = 0;
            tape.beginReading();
            for (int line = 0; line < MOST_SIGNS && tape.kind != Tape.END; line++) {
                if (!readLine(tape) || !tape.takeSign(';')) {
                    return tape.fault;
                }
            }
            return 0;
        }

        private boolean readLine(Tape tape) {
            int line = tape.among(ORCHARD_LINES);
            switch (line) {
                case TREE_LINE:
                    return readTree(tape);
                case PERSON_LINE:
                    return readPerson(tape);
                case PINCH_LINE:
                    return readOnce(tape, line) && readPinch(tape);
                case NOON_LINE:
                    return readOnce(tape, line) && readNoon(tape);
                case FROST_LINE:
                    return readOnce(tape, line) && readFrosts(tape);
                case BEARS_LINE:
                    return readOnce(tape, line) && readE(tape, 0);
                default:
                    return tape.wrong(CANNOT_STAND);
            }
        }

        private boolean readOnce(Tape tape, int line) {
            if ((stood >> line & 1) != 0) {
                return tape.wrong(TOLD_ALREADY);
            }
            stood |= 1 << line;
            tape.next();
            return true;
        }

        private boolean readTree(Tape tape) {
            if (plan.trees >= MOST_TREES) {
                return tape.wrong(TOO_MANY);
            }
            tape.next();
            int tree = plan.trees;
            if (!isNewName(tape)) {
                return false;
            }
            plan.treeName[tree] = tape.word;
            tape.next();
            plan.treeKind[tree] = tape.takeAmong(TREE_KINDS);
            if (tape.fault != 0 || !tape.takeWord("last")) {
                return false;
            }
            plan.last[tree] = tape.takeNumber(0, GREATEST_LAST);
            if (tape.fault != 0 || !tape.takeWord("age")) {
                return false;
            }
            plan.age[tree] = tape.takeNumber(0, GREATEST_TOLD_AGE);
            plan.trees++;
            return tape.fault == 0;
        }

        private boolean readPerson(Tape tape) {
            if (plan.persons >= MOST_PERSONS) {
                return tape.wrong(TOO_MANY);
            }
            tape.next();
            int person = plan.persons;
            if (!isNewName(tape)) {
                return false;
            }
            plan.personName[person] = tape.word;
            tape.next();
            plan.personKind[person] = tape.takeAmong(PERSON_KINDS);
            if (tape.fault != 0 || !tape.takeWord("feet")) {
                return false;
            }
            plan.feet[person] = tape.takeNumber(0, GREATEST_TOLD_FEET);
            plan.persons++;
            return tape.fault == 0;
        }

        private boolean isNewName(Tape tape) {
            if (!tape.isName()) {
                return tape.wrong(CANNOT_STAND);
            }
            if (plan.treeNamed(tape.word) != NONE || plan.personNamed(tape.word) != NONE) {
                return tape.wrong(TOLD_ALREADY);
            }
            return true;
        }

        private boolean readPinch(Tape tape) {
            plan.pinch = tape.takeNumber(0, GREATEST_PINCH);
            return tape.fault == 0;
        }

        private boolean readNoon(Tape tape) {
            plan.noon = tape.takeNumber(1, GREATEST_NOON);
            return tape.fault == 0;
        }

        private boolean readFrosts(Tape tape) {
            for (int year = 0; year < MOST_FROSTS; year++) {
                int frost = tape.takeNumber(0, GREATEST_FROST);
                if (frost == NONE) {
                    return false;
                }
                plan.frost[year] = frost;
                plan.frosts = year + 1;
                if (tape.kind != Tape.NUMBER) {
                    return true;
                }
            }
            // The NUMBER behind the last one may be wrong in two ways: the lesser counts.
            return tape.wrong(tape.number > GREATEST_FROST ? NUMBER_NOT_AS_TOLD : TOO_MANY);
        }

        private boolean readE(Tape tape, int depth) {
            if (!readTest(tape, depth)) {
                return false;
            }
            for (int more = 0; more < MOST_SIGNS; more++) {
                boolean and = tape.isWord("and");
                if (!and && !tape.isWord("or")) {
                    return true;
                }
                tape.next();
                if (!readTest(tape, depth)) {
                    return false;
                }
                plan.formula.add(and ? Formula.AND : Formula.OR);
            }
            return true;
        }

        private boolean readTest(Tape tape, int depth) {
            if (!readSum(tape, depth)) {
                return false;
            }
            boolean less = tape.isSign('<');
            if (!less && !tape.isSign('=')) {
                return true;
            }
            tape.next();
            if (!readSum(tape, depth)) {
                return false;
            }
            plan.formula.add(less ? Formula.LESS : Formula.EQUAL);
            return true;
        }

        private boolean readSum(Tape tape, int depth) {
            if (!readProduct(tape, depth)) {
                return false;
            }
            for (int more = 0; more < MOST_SIGNS; more++) {
                boolean plus = tape.isSign('+');
                if (!plus && !tape.isSign('-')) {
                    return true;
                }
                tape.next();
                if (!readProduct(tape, depth)) {
                    return false;
                }
                plan.formula.add(plus ? Formula.PLUS : Formula.MINUS);
            }
            return true;
        }

        private boolean readProduct(Tape tape, int depth) {
            if (!readPart(tape, depth)) {
                return false;
            }
            for (int more = 0; more < MOST_SIGNS; more++) {
                if (!tape.isSign('*')) {
                    return true;
                }
                tape.next();
                if (!readPart(tape, depth)) {
                    return false;
                }
                plan.formula.add(Formula.TIMES);
            }
            return true;
        }

        private boolean readPart(Tape tape, int depth) {
            boolean isNumber = tape.kind == Tape.NUMBER;
            boolean isNot = tape.isWord("not");
            boolean opens = tape.isSign('(');
            int fact = tape.among(FACTS);
            if (!isNumber && !isNot && !opens && fact == NONE) {
                return tape.wrong(CANNOT_STAND);
            }
            if (depth >= TOO_DEEP) {
                return tape.wrong(TOO_MANY);
            }
            int step = isNumber ? tape.number : Formula.FIRST_FACT - fact;
            tape.next();
            if (opens) {
                return readE(tape, depth + 1) && tape.takeSign(')');
            }
            if (isNot) {
                if (!readPart(tape, depth + 1)) {
                    return false;
                }
                step = Formula.NOT;
            }
            plan.formula.add(step);
            return true;
        }
    }

    /** The lines of a MORNING, by the numbers of those whom they name. */
    private static final class Lines {
        static final int CANNOT_BE = -1;
        static final int PINCHED = 0;
        static final int WENT_WELL = 1;

        int length;

        private final int[] kind = new int[MOST_LINES];
        private final int[] first = new int[MOST_LINES];
        private final int[] second = new int[MOST_LINES];

        void clear() {
            length = 0;
        }

        void copy(Lines other) {
            System.arraycopy(other.kind, 0, kind, 0, MOST_LINES);
            System.arraycopy(other.first, 0, first, 0, MOST_LINES);
            System.arraycopy(other.second, 0, second, 0, MOST_LINES);
            length = other.length;
        }

        void add(int lineKind, int one, int other) {
            if (length < MOST_LINES) {
                kind[length] = lineKind;
                first[length] = one;
                second[length] = other;
                length++;
            }
        }

        int carryOut(int line, State state) {
            if (line < 0 || line >= length) {
                return CANNOT_BE;
            }
            int one = first[line];
            int other = second[line];
            switch (kind[line]) {
                case TRY_LINE:
                    if (!state.canTry(one, other)) {
                        return CANNOT_BE;
                    }
                    return state.attempt(one, other) ? WENT_WELL : PINCHED;
                case SHARE_LINE:
                    if (!state.canJoin(one, other)) {
                        return CANNOT_BE;
                    }
                    state.join(one, other);
                    return WENT_WELL;
                case GRAFT_LINE:
                    state.blend(one, other);
                    return WENT_WELL;
                case PRUNE_LINE:
                    state.trim(one);
                    return WENT_WELL;
                default:
                    state.passYear();
                    return WENT_WELL;
            }
        }
    }

    /** Reads a TAPE as a MORNING of a plan into lines of its own. */
    private static final class MorningReader {
        final Lines lines = new Lines();

        int read(Tape tape, Plan plan) {
            lines.clear();
            tape.beginReading();
            for (int line = 0; line < MOST_SIGNS && tape.kind != Tape.END; line++) {
                if (!readLine(tape, plan) || !tape.takeSign(';')) {
                    return tape.fault;
                }
            }
            return 0;
        }

        private boolean readLine(Tape tape, Plan plan) {
            int kind = tape.among(MORNING_LINES);
            if (kind == NONE) {
                return tape.wrong(CANNOT_STAND);
            }
            if (lines.length >= MOST_LINES) {
                return tape.wrong(TOO_MANY);
            }
            tape.next();
            int one = NONE;
            int other = NONE;
            if (kind != YEAR_LINE) {
                one = readNamed(tape, plan, kind == TRY_LINE || kind == SHARE_LINE, NONE);
            }
            if (tape.fault == 0 && kind != YEAR_LINE && kind != PRUNE_LINE) {
                other = readNamed(tape, plan, kind == SHARE_LINE, kind == TRY_LINE ? NONE : one);
            }
            lines.add(kind, one, other);
            return tape.fault == 0;
        }

        /** The number of the PERSON or TREE named, another one than the one given; NONE: wrong. */
        private int readNamed(Tape tape, Plan plan, boolean isPerson, int notThis) {
            if (!tape.isName()) {
                tape.wrong(CANNOT_STAND);
                return NONE;
            }
            int named = isPerson ? plan.personNamed(tape.word) : plan.treeNamed(tape.word);
            if (named == NONE) {
                tape.wrong(NOBODY_TOLD);
                return NONE;
            }
            if (named == notThis) {
                tape.wrong(TOLD_ALREADY);
                return NONE;
            }
            tape.next();
            return named;
        }
    }

    /** All that changes by what is done in an orchard, and that UNDO brings back. */
    private static final class State {
        int year;
        final int[] last = new int[MOST_TREES];
        final int[] age = new int[MOST_TREES];
        final int[] feet = new int[MOST_PERSONS];
        final int[] tried = new int[MOST_PERSONS];
        /** The TREE by which a PERSON is SHOD, NONE: he is not. */
        final int[] shod = new int[MOST_PERSONS];
        /** With whom a PERSON shares, NONE: nobody. */
        final int[] mate = new int[MOST_PERSONS];
        final int[] road = new int[MOST_PERSONS];

        private final Plan plan;

        State(Plan plan) {
            this.plan = plan;
        }

        void begin() {
            year = 0;
            System.arraycopy(plan.last, 0, last, 0, MOST_TREES);
            System.arraycopy(plan.age, 0, age, 0, MOST_TREES);
            System.arraycopy(plan.feet, 0, feet, 0, MOST_PERSONS);
            Arrays.fill(road, 0);
            beginMorning();
        }

        private void beginMorning() {
            Arrays.fill(tried, 0);
            Arrays.fill(shod, NONE);
            Arrays.fill(mate, NONE);
        }

        void copy(State other) {
            year = other.year;
            System.arraycopy(other.last, 0, last, 0, MOST_TREES);
            System.arraycopy(other.age, 0, age, 0, MOST_TREES);
            System.arraycopy(other.feet, 0, feet, 0, MOST_PERSONS);
            System.arraycopy(other.tried, 0, tried, 0, MOST_PERSONS);
            System.arraycopy(other.shod, 0, shod, 0, MOST_PERSONS);
            System.arraycopy(other.mate, 0, mate, 0, MOST_PERSONS);
            System.arraycopy(other.road, 0, road, 0, MOST_PERSONS);
        }

        boolean bears(int tree) {
            return plan.standsFrost(tree, plan.frostOf(year));
        }

        int bearingTrees() {
            int bits = 0;
            for (int tree = 0; tree < plan.trees; tree++) {
                bits |= bears(tree) ? 1 << tree : 0;
            }
            return bits;
        }

        /** The SIZE of a TREE, NONE: it does not BEAR. */
        int sizeOf(int tree) {
            return bears(tree) ? plan.sizeBy(last[tree], age[tree], year) : NONE;
        }

        boolean suits(int person, int tree) {
            if (!plan.isPerson(person) || !bears(tree)) {
                return false;
            }
            int size = plan.sizeBy(last[tree], age[tree], year);
            return plan.pinched(person, feet[person], size) == 0;
        }

        /** Who has the pair of a TREE, as bits. */
        int holders(int tree) {
            int bits = 0;
            for (int person = 0; person < plan.persons; person++) {
                bits |= shod[person] == tree ? 1 << person : 0;
            }
            return bits;
        }

        int shodPersons() {
            int bits = 0;
            for (int person = 0; person < plan.persons; person++) {
                bits |= shod[person] != NONE ? 1 << person : 0;
            }
            return bits;
        }

        int allRoad() {
            int sum = 0;
            for (int person = 0; person < plan.persons; person++) {
                sum += road[person];
            }
            return sum;
        }

        boolean canTry(int person, int tree) {
            if (!plan.isPerson(person) || !bears(tree)) {
                return false;
            }
            return shod[person] == NONE && tried[person] < plan.noon && holders(tree) == 0;
        }

        /** A TRY that can be; whether it FITS. */
        boolean attempt(int person, int tree) {
            if (!canTry(person, tree)) {
                return false;
            }
            tried[person]++;
            if (!suits(person, tree)) {
                return false;
            }
            putOn(person, tree);
            return true;
        }

        private void putOn(int person, int tree) {
            shod[person] = tree;
            road[person] += plan.roadBy(tree);
        }

        boolean canJoin(int person, int other) {
            if (!plan.isPerson(person) || !plan.isPerson(other) || person == other) {
                return false;
            }
            boolean onePair = shod[person] != NONE && mate[person] == NONE && shod[other] == NONE;
            return onePair && suits(other, shod[person]);
        }

        /** A SHARE, of which canJoin has said that it can be. */
        void join(int person, int other) {
            if (plan.isPerson(person) && plan.isPerson(other)) {
                putOn(other, shod[person]);
                mate[person] = other;
                mate[other] = person;
            }
        }

        void blend(int tree, int other) {
            if (plan.isTree(tree) && plan.isTree(other)) {
                last[tree] = (last[tree] + last[other]) / 2;
            }
        }

        void trim(int tree) {
            if (plan.isTree(tree)) {
                last[tree] = Math.max(0, last[tree] - 1);
            }
        }

        void passYear() {
            passYearOf(plan.frostOf(year));
        }

        void passYearOf(int frost) {
            for (int tree = 0; tree < plan.trees; tree++) {
                if (!plan.standsFrost(tree, frost)) {
                    trim(tree);
                }
                age[tree] = Math.min(GREATEST_AGE, age[tree] + 1);
            }
            for (int person = 0; person < plan.persons; person++) {
                if (plan.personKind[person] == CHILD) {
                    feet[person] = Math.min(GREATEST_FEET, feet[person] + 2);
                }
            }
            beginMorning();
            year++;
        }
    }

    /** What is FELT of the unknown PERSON. */
    private static final class Felt {
        int length;

        private final int[] trees = new int[MOST_FELT];
        private final boolean[] fitted = new boolean[MOST_FELT];

        void clear() {
            length = 0;
        }

        void copy(Felt other) {
            System.arraycopy(other.trees, 0, trees, 0, MOST_FELT);
            for (int i = 0; i < MOST_FELT; i++) {
                fitted[i] = other.fitted[i];
            }
            length = other.length;
        }

        boolean add(int tree, boolean isFitted) {
            if (length >= MOST_FELT) {
                return false;
            }
            trees[length] = tree;
            fitted[length] = isFitted;
            length++;
            return true;
        }

        /** Whether all is so by these feet; a TREE whose SIZE is NONE tells nothing. */
        boolean allows(int feet, int[] sizes, int pinch) {
            for (int i = 0; i < length; i++) {
                int size = trees[i] >= 0 && trees[i] < sizes.length ? sizes[trees[i]] : NONE;
                boolean wouldFit = Math.abs(size - feet) <= pinch;
                if (size != NONE && wouldFit != fitted[i]) {
                    return false;
                }
            }
            return true;
        }
    }

    /** What UNDO can bring back, the oldest first, and the MARKS. */
    private static final class Past {
        int length;

        private final State[] kept = new State[MOST_UNDONE];
        private final State[] markedState = new State[MOST_MARKS];
        private final Felt[] markedFelt = new Felt[MOST_MARKS];
        private final boolean[] laid = new boolean[MOST_MARKS];

        Past(Plan plan) {
            for (int i = 0; i < MOST_UNDONE; i++) {
                kept[i] = new State(plan);
            }
            for (int mark = 0; mark < MOST_MARKS; mark++) {
                markedState[mark] = new State(plan);
                markedFelt[mark] = new Felt();
            }
        }

        void forgetAll() {
            length = 0;
            for (int mark = 0; mark < MOST_MARKS; mark++) {
                laid[mark] = false;
            }
        }

        void keep(State state) {
            if (length >= MOST_UNDONE) {
                dropOldest();
            }
            kept[length].copy(state);
            length++;
        }

        /** The oldest is used again as the room for the newest. */
        private void dropOldest() {
            State oldest = kept[0];
            for (int i = 1; i < MOST_UNDONE; i++) {
                kept[i - 1] = kept[i];
            }
            kept[MOST_UNDONE - 1] = oldest;
            length = MOST_UNDONE - 1;
        }

        boolean bringBack(State state) {
            if (length < 1) {
                return false;
            }
            length--;
            state.copy(kept[length]);
            return true;
        }

        void lay(int mark, State state, Felt felt) {
            if (mark >= 0 && mark < MOST_MARKS) {
                markedState[mark].copy(state);
                markedFelt[mark].copy(felt);
                laid[mark] = true;
            }
        }

        boolean goBack(int mark, State state, Felt felt) {
            if (mark < 0 || mark >= MOST_MARKS || !laid[mark]) {
                return false;
            }
            state.copy(markedState[mark]);
            felt.copy(markedFelt[mark]);
            length = 0;
            return true;
        }
    }

    /** Who gets which TREE, no two the same, so that these are worth the most together. */
    private static final class Matching {
        private static final int TAKINGS = 1 << MOST_TREES;

        int total;
        /** By PERSON: the TREES that he may get, as bits. */
        final int[] choices = new int[MOST_PERSONS];
        /** By TREE. */
        final int[] worth = new int[MOST_TREES];
        /** By PERSON: the TREE that he gets, NONE: none. */
        final int[] row = new int[MOST_PERSONS];

        private int persons;
        private int trees;
        /** By PERSON and TREES taken already: the most that he and those behind him add. */
        private final int[] most = new int[(MOST_PERSONS + 1) * TAKINGS];

        void begin(int personCount, int treeCount) {
            persons = Math.min(MOST_PERSONS, personCount);
            trees = Math.min(MOST_TREES, treeCount);
        }

        void solve() {
            Arrays.fill(most, 0);
            for (int person = persons - 1; person >= 0; person--) {
                for (int taken = 0; taken < 1 << trees; taken++) {
                    most[person * TAKINGS + taken] = mostFrom(person, taken);
                }
            }
            total = most[0];
            int taken = 0;
            for (int person = 0; person < persons; person++) {
                row[person] = firstOfMost(person, taken);
                taken |= row[person] == NONE ? 0 : 1 << row[person];
            }
        }

        private int mostFrom(int person, int taken) {
            int found = most[(person + 1) * TAKINGS + taken];
            for (int tree = 0; tree < trees; tree++) {
                found = Math.max(found, mostBy(person, taken, tree));
            }
            return found;
        }

        private int firstOfMost(int person, int taken) {
            for (int tree = 0; tree < trees; tree++) {
                if (mostBy(person, taken, tree) == most[person * TAKINGS + taken]) {
                    return tree;
                }
            }
            return NONE;
        }

        /** The most if the PERSON gets this TREE; NONE: he can't. */
        private int mostBy(int person, int taken, int tree) {
            boolean can = ((choices[person] & ~taken) >> tree & 1) != 0;
            return can ? worth[tree] + most[(person + 1) * TAKINGS + (taken | 1 << tree)] : NONE;
        }
    }

    /** The order in which PERSONS go out so that most of them are SHOD. */
    private static final class Queue {
        int length;
        int mostShod;
        final int[] bestRow = new int[MOST_PERSONS];

        private int noon;
        private int trees;
        private final int[] persons = new int[MOST_PERSONS];
        private final int[] tried = new int[MOST_PERSONS];
        private final int[] fitting = new int[MOST_PERSONS];
        private final int[] row = new int[MOST_PERSONS];

        void begin(int noonNumber, int treeCount) {
            length = 0;
            noon = noonNumber;
            trees = Math.min(MOST_TREES, treeCount);
        }

        void add(int person, int often, int fittingTrees) {
            if (length < MOST_PERSONS) {
                persons[length] = person;
                tried[length] = often;
                fitting[length] = fittingTrees;
                length++;
            }
        }

        void solve(int free) {
            mostShod = NONE;
            goOn(0, 0, free, 0);
        }

        /** Rows come the first first, so that only a better one takes the place of another. */
        private void goOn(int depth, int gone, int free, int shod) {
            if (depth >= length) {
                if (shod > mostShod) {
                    mostShod = shod;
                    System.arraycopy(row, 0, bestRow, 0, length);
                }
                return;
            }
            if (shod + length - depth <= mostShod) {
                return;
            }
            for (int next = 0; next < length; next++) {
                if ((gone >> next & 1) == 0) {
                    row[depth] = persons[next];
                    int found = treeFor(next, free);
                    int left = found == NONE ? free : free & ~(1 << found);
                    goOn(depth + 1, gone | 1 << next, left, found == NONE ? shod : shod + 1);
                }
            }
        }

        private int treeFor(int next, int free) {
            int often = tried[next];
            for (int tree = 0; tree < trees && often < noon; tree++) {
                if ((free >> tree & 1) != 0) {
                    often++;
                    if ((fitting[next] >> tree & 1) != 0) {
                        return tree;
                    }
                }
            }
            return NONE;
        }
    }
}
