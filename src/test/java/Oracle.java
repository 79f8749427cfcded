import java.util.ArrayList;
import java.util.Arrays;
import java.util.Collections;
import java.util.HashMap;
import java.util.List;
import java.util.Map;
import java.util.function.ToIntFunction;
import java.util.regex.Matcher;
import java.util.regex.Pattern;

/** The document a second time, as slow and plain as can be, to hold the program against. */
final class Oracle {
    private static final List<String> TREE_KINDS = List.of("brogue", "boot", "slipper", "sandal");
    private static final List<String> PERSON_KINDS = List.of("plain", "child", "hopper", "old");
    private static final List<String> RESERVED = new ArrayList<>(List.of("tree", "last", "age", "person", "feet", "pinch",
            "noon", "frost", "bears", "try", "share", "graft", "prune", "year", "not", "and", "or"));
    private static final int[] STANDS = {1, 3, 0, 2};
    private static final int[] ROAD = {3, 2, 0, 1};
    private static final Pattern TOKEN = Pattern.compile("[a-z]+|[0-9]+|[()<=+*;-]|.");

    static {
        RESERVED.addAll(TREE_KINDS);
        RESERVED.addAll(PERSON_KINDS);
    }

    /** What is told of a tree or a person. */
    record Told(String name, int kind, int number, int age) {
    }

    record Facts(int size, int years, int chill, int date) {
    }

    record Line(String word, int one, int two) {
    }

    record Feeling(int tree, boolean fitted) {
    }

    static final class Wrong extends RuntimeException {
        private static final long serialVersionUID = 1L;
        final int fault;

        Wrong(int kind, int place) {
            this.fault = kind + 16 * place;
        }
    }

    static final class Orchard {
        final List<Told> trees = new ArrayList<>();
        final List<Told> persons = new ArrayList<>();
        final Map<String, Integer> once = new HashMap<>();
        final List<Integer> frosts = new ArrayList<>();
        ToIntFunction<Facts> bears = facts -> facts.size();

        int pinch() {
            return once.getOrDefault("pinch", 1);
        }

        int noon() {
            return once.getOrDefault("noon", 3);
        }

        int frost(int year) {
            return frosts.isEmpty() ? 0 : frosts.get(year % frosts.size());
        }
    }

    final class World {
        int[] last = orchard.trees.stream().mapToInt(Told::number).toArray();
        int[] age = orchard.trees.stream().mapToInt(Told::age).toArray();
        int[] feet = orchard.persons.stream().mapToInt(Told::number).toArray();
        int[] tried = new int[orchard.persons.size()];
        int[] shod = filled();
        int[] mate = filled();
        int[] road = new int[orchard.persons.size()];
        int year = 0;

        private int[] filled() {
            int[] row = new int[orchard.persons.size()];
            Arrays.fill(row, -1);
            return row;
        }

        World copy() {
            World w = new World();
            w.last = last.clone();
            w.age = age.clone();
            w.feet = feet.clone();
            w.tried = tried.clone();
            w.shod = shod.clone();
            w.mate = mate.clone();
            w.road = road.clone();
            w.year = year;
            return w;
        }

        boolean bears(int tree) {
            return orchard.frost(year) <= STANDS[orchard.trees.get(tree).kind()];
        }

        int size(int tree) {
            int e = orchard.bears.applyAsInt(new Facts(last[tree], age[tree], orchard.frost(year), year));
            return e < 0 ? 0 : e > 40 ? 40 : e;
        }

        boolean fits(int person, int tree, int pinch) {
            if (!bears(tree)) {
                return false;
            }
            int kind = orchard.persons.get(person).kind();
            int may = kind == 3 ? pinch + 1 : pinch;
            int f = feet[person];
            int s = size(tree);
            return s - f <= may && f - s <= may || kind == 2 && 2 * s - f <= may && f - 2 * s <= may;
        }

        boolean fits(int person, int tree) {
            return fits(person, tree, orchard.pinch());
        }

        boolean anyFits(int person) {
            for (int t = 0; t < last.length; t++) {
                if (fits(person, t)) {
                    return true;
                }
            }
            return false;
        }

        boolean taken(int tree) {
            return Arrays.stream(shod).anyMatch(t -> t == tree);
        }

        int tryOn(int person, int tree) {
            if (shod[person] != -1 || tried[person] >= orchard.noon() || !bears(tree) || taken(tree)) {
                return -1;
            }
            tried[person]++;
            if (!fits(person, tree)) {
                return 0;
            }
            shod[person] = tree;
            road[person] += ROAD[orchard.trees.get(tree).kind()];
            return 1;
        }

        boolean share(int person, int other) {
            if (person == other || shod[person] == -1 || mate[person] != -1 || shod[other] != -1 || !fits(other, shod[person])) {
                return false;
            }
            shod[other] = shod[person];
            mate[person] = other;
            mate[other] = person;
            road[other] += ROAD[orchard.trees.get(shod[person]).kind()];
            return true;
        }

        void year(int frost) {
            for (int t = 0; t < last.length; t++) {
                if (frost > STANDS[orchard.trees.get(t).kind()] && last[t] > 0) {
                    last[t]--;
                }
                if (age[t] < 99) {
                    age[t]++;
                }
            }
            for (int p = 0; p < feet.length; p++) {
                if (orchard.persons.get(p).kind() == 1) {
                    feet[p] = Math.min(feet[p] + 2, 40);
                }
            }
            tried = new int[feet.length];
            shod = filled();
            mate = filled();
            year++;
        }

        void year() {
            year(orchard.frost(year));
        }

        int roads() {
            return Arrays.stream(road).sum();
        }
    }

    final StringBuilder tape = new StringBuilder();
    Orchard orchard = new Orchard();
    World now = new World();
    List<Line> morning = new ArrayList<>();
    final List<World> past = new ArrayList<>();
    List<Feeling> felt = new ArrayList<>();
    final World[] markWorld = new World[4];
    final List<List<Feeling>> markFelt = new ArrayList<>(Arrays.asList(null, null, null, null));

    // ---- reading

    private List<String> tokens;
    private List<Integer> places;
    private int at;

    private void scan() {
        tokens = new ArrayList<>();
        places = new ArrayList<>();
        Matcher m = TOKEN.matcher(tape);
        while (m.find()) {
            if (!m.group().equals(" ")) {
                tokens.add(m.group());
                places.add(m.start());
            }
        }
        tokens.add("");
        places.add(tape.length());
        at = 0;
        tape.setLength(0);
    }

    private String seen() {
        return tokens.get(at);
    }

    private Wrong wrong(int kind) {
        return new Wrong(kind, places.get(at));
    }

    private boolean isWord() {
        return seen().matches("[a-z]{1,8}");
    }

    private boolean isNumber() {
        return seen().matches("[0-9]{1,4}");
    }

    private void expect(String token) {
        if (!seen().equals(token)) {
            throw wrong(1);
        }
        at++;
    }

    private int number(int least, int greatest) {
        if (!isNumber()) {
            throw wrong(1);
        }
        int n = Integer.parseInt(seen());
        if (n < least || n > greatest) {
            throw wrong(4);
        }
        at++;
        return n;
    }

    private String newName(Orchard o) {
        if (!isWord() || RESERVED.contains(seen())) {
            throw wrong(1);
        }
        String name = seen();
        if (index(o.trees, name) >= 0 || index(o.persons, name) >= 0) {
            throw wrong(3);
        }
        at++;
        return name;
    }

    private static int index(List<Told> told, String name) {
        for (int i = 0; i < told.size(); i++) {
            if (told.get(i).name().equals(name)) {
                return i;
            }
        }
        return -1;
    }

    private int kind(List<String> kinds) {
        int kind = kinds.indexOf(seen());
        if (kind < 0) {
            throw wrong(1);
        }
        at++;
        return kind;
    }

    int orchard() {
        scan();
        Orchard o = new Orchard();
        try {
            while (!seen().isEmpty()) {
                orchardLine(o);
                expect(";");
            }
        } catch (Wrong w) {
            return w.fault;
        }
        orchard = o;
        now = new World();
        morning = new ArrayList<>();
        past.clear();
        felt = new ArrayList<>();
        Arrays.fill(markWorld, null);
        return 0;
    }

    private void orchardLine(Orchard o) {
        String word = seen();
        if (!List.of("tree", "person", "pinch", "noon", "frost", "bears").contains(word)) {
            throw wrong(1);
        }
        if (o.once.containsKey(word)) {
            throw wrong(3);
        }
        if (word.equals("tree") && o.trees.size() == 6 || word.equals("person") && o.persons.size() == 6) {
            throw wrong(5);
        }
        at++;
        switch (word) {
            case "tree" -> {
                String name = newName(o);
                int kind = kind(TREE_KINDS);
                expect("last");
                int last = number(0, 30);
                expect("age");
                o.trees.add(new Told(name, kind, last, number(0, 20)));
            }
            case "person" -> {
                String name = newName(o);
                int kind = kind(PERSON_KINDS);
                expect("feet");
                o.persons.add(new Told(name, kind, number(0, 30), 0));
            }
            case "pinch" -> o.once.put(word, number(0, 5));
            case "noon" -> o.once.put(word, number(1, 6));
            case "frost" -> {
                o.once.put(word, 1);
                o.frosts.add(number(0, 3));
                while (isNumber()) {
                    int frost = number(0, 3);
                    if (o.frosts.size() == 12) {
                        at--;
                        throw wrong(5);
                    }
                    o.frosts.add(frost);
                }
            }
            default -> {
                o.once.put(word, 1);
                o.bears = e(0);
            }
        }
    }

    private ToIntFunction<Facts> e(int within) {
        ToIntFunction<Facts> all = test(within);
        while (seen().equals("and") || seen().equals("or")) {
            ToIntFunction<Facts> left = all;
            boolean and = seen().equals("and");
            at++;
            ToIntFunction<Facts> right = test(within);
            all = f -> {
                boolean l = left.applyAsInt(f) != 0;
                boolean r = right.applyAsInt(f) != 0;
                return (and ? l && r : l || r) ? 1 : 0;
            };
        }
        return all;
    }

    private ToIntFunction<Facts> test(int within) {
        ToIntFunction<Facts> left = sum(within);
        if (seen().equals("<") || seen().equals("=")) {
            boolean less = seen().equals("<");
            at++;
            ToIntFunction<Facts> right = sum(within);
            return f -> (less ? left.applyAsInt(f) < right.applyAsInt(f) : left.applyAsInt(f) == right.applyAsInt(f)) ? 1 : 0;
        }
        return left;
    }

    private ToIntFunction<Facts> sum(int within) {
        ToIntFunction<Facts> all = product(within);
        while (seen().equals("+") || seen().equals("-")) {
            ToIntFunction<Facts> left = all;
            boolean plus = seen().equals("+");
            at++;
            ToIntFunction<Facts> right = product(within);
            all = f -> plus ? left.applyAsInt(f) + right.applyAsInt(f) : left.applyAsInt(f) - right.applyAsInt(f);
        }
        return all;
    }

    private ToIntFunction<Facts> product(int within) {
        ToIntFunction<Facts> all = part(within);
        while (seen().equals("*")) {
            ToIntFunction<Facts> left = all;
            at++;
            ToIntFunction<Facts> right = part(within);
            all = f -> left.applyAsInt(f) * right.applyAsInt(f);
        }
        return all;
    }

    private ToIntFunction<Facts> part(int within) {
        String token = seen();
        if (!isNumber() && !List.of("size", "years", "chill", "date", "not", "(").contains(token)) {
            throw wrong(1);
        }
        if (within == 5) {
            throw wrong(5);
        }
        at++;
        switch (token) {
            case "size":
                return Facts::size;
            case "years":
                return Facts::years;
            case "chill":
                return Facts::chill;
            case "date":
                return Facts::date;
            case "not":
                ToIntFunction<Facts> inner = part(within + 1);
                return f -> inner.applyAsInt(f) == 0 ? 1 : 0;
            case "(":
                ToIntFunction<Facts> whole = e(within + 1);
                expect(")");
                return whole;
            default:
                int n = Integer.parseInt(token);
                return f -> n;
        }
    }

    int morning() {
        scan();
        List<Line> lines = new ArrayList<>();
        try {
            while (!seen().isEmpty()) {
                lines.add(morningLine(lines.size()));
                expect(";");
            }
        } catch (Wrong w) {
            return w.fault;
        }
        morning = lines;
        return 0;
    }

    private Line morningLine(int before) {
        String word = seen();
        if (!List.of("try", "share", "graft", "prune", "year").contains(word)) {
            throw wrong(1);
        }
        if (before == 40) {
            throw wrong(5);
        }
        at++;
        int one = -1;
        int two = -1;
        switch (word) {
            case "try" -> {
                one = named(orchard.persons, -1);
                two = named(orchard.trees, -1);
            }
            case "share" -> {
                one = named(orchard.persons, -1);
                two = named(orchard.persons, one);
            }
            case "graft" -> {
                one = named(orchard.trees, -1);
                two = named(orchard.trees, one);
            }
            case "prune" -> one = named(orchard.trees, -1);
            default -> {
            }
        }
        return new Line(word, one, two);
    }

    private int named(List<Told> told, int not) {
        if (!isWord() || RESERVED.contains(seen())) {
            throw wrong(1);
        }
        int index = index(told, seen());
        if (index < 0) {
            throw wrong(2);
        }
        if (index == not) {
            throw wrong(3);
        }
        at++;
        return index;
    }

    // ---- doing

    boolean tree(int t) {
        return t >= 0 && t < orchard.trees.size();
    }

    boolean person(int p) {
        return p >= 0 && p < orchard.persons.size();
    }

    private void done(World before) {
        past.add(before);
        if (past.size() > 16) {
            past.remove(0);
        }
    }

    int feed(long... words) {
        for (long word : words) {
            for (int i = 7; i >= 0; i--) {
                int b = (int) (word >> 8 * i) & 255;
                if ((b == 10 || b > 31 && b < 127) && tape.length() < 1000) {
                    tape.append(b == 10 ? ' ' : (char) b);
                }
            }
        }
        return tape.length();
    }

    int tree(int t, int what) {
        if (!tree(t) || what < 0 || what > 4) {
            return -2;
        }
        int holders = 0;
        for (int p = 0; p < now.shod.length; p++) {
            holders += now.shod[p] == t ? 1 << p : 0;
        }
        return new int[] {orchard.trees.get(t).kind(), now.last[t], now.age[t], now.bears(t) ? now.size(t) : -1, holders}[what];
    }

    int person(int p, int what) {
        if (!person(p) || what < 0 || what > 5) {
            return -2;
        }
        return new int[] {orchard.persons.get(p).kind(), now.feet[p], now.shod[p], now.tried[p], now.road[p], now.mate[p]}[what];
    }

    boolean fits(int p, int t) {
        return person(p) && tree(t) && now.fits(p, t);
    }

    int tryOn(int p, int t) {
        if (!person(p) || !tree(t)) {
            return -1;
        }
        World before = now.copy();
        int got = now.tryOn(p, t);
        if (got >= 0) {
            done(before);
        }
        return got;
    }

    boolean share(int p, int other) {
        if (!person(p) || !person(other)) {
            return false;
        }
        World before = now.copy();
        boolean got = now.share(p, other);
        if (got) {
            done(before);
        }
        return got;
    }

    int graft(int t, int other) {
        if (!tree(t) || !tree(other) || t == other) {
            return -1;
        }
        done(now.copy());
        return now.last[t] = (now.last[t] + now.last[other]) / 2;
    }

    int prune(int t) {
        if (!tree(t)) {
            return -1;
        }
        done(now.copy());
        return now.last[t] = Math.max(0, now.last[t] - 1);
    }

    int year() {
        done(now.copy());
        now.year();
        return now.year;
    }

    boolean undo() {
        if (past.isEmpty()) {
            return false;
        }
        now = past.remove(past.size() - 1);
        return true;
    }

    boolean mark(int m, boolean back) {
        if (m < 0 || m > 3 || back && markWorld[m] == null) {
            return false;
        }
        if (back) {
            now = markWorld[m].copy();
            felt = new ArrayList<>(markFelt.get(m));
            past.clear();
        } else {
            markWorld[m] = now.copy();
            markFelt.set(m, new ArrayList<>(felt));
        }
        return true;
    }

    boolean feel(int t, boolean fitted) {
        if (!tree(t) || felt.size() == 8) {
            return false;
        }
        felt.add(new Feeling(t, fitted));
        return true;
    }

    // ---- asking

    int judged(int what) {
        if (what < 0 || what > 2) {
            return -2;
        }
        World w = new World();
        List<Integer> cannot = new ArrayList<>();
        List<Integer> pinched = new ArrayList<>();
        for (int i = 0; i < morning.size(); i++) {
            Line line = morning.get(i);
            switch (line.word()) {
                case "try" -> {
                    int got = w.tryOn(line.one(), line.two());
                    if (got < 1) {
                        (got == 0 ? pinched : cannot).add(i);
                    }
                }
                case "share" -> {
                    if (!w.share(line.one(), line.two())) {
                        cannot.add(i);
                    }
                }
                case "graft" -> w.last[line.one()] = (w.last[line.one()] + w.last[line.two()]) / 2;
                case "prune" -> w.last[line.one()] = Math.max(0, w.last[line.one()] - 1);
                default -> w.year();
            }
        }
        if (what == 2) {
            return w.roads();
        }
        List<Integer> lines = what == 0 ? cannot : pinched;
        return lines.isEmpty() ? -1 : lines.get(0);
    }

    int fitted(int p) {
        if (!person(p)) {
            return -1;
        }
        int bits = 0;
        for (int t = 0; t < now.last.length; t++) {
            bits += now.fits(p, t) ? 1 << t : 0;
        }
        return bits;
    }

    int wearers(int t) {
        if (!tree(t) || !now.bears(t)) {
            return -1;
        }
        int bits = 0;
        for (int p = 0; p < now.feet.length; p++) {
            bits += now.fits(p, t) ? 1 << p : 0;
        }
        return bits;
    }

    /** All rows that can be are gone through in order, 6 standing for none; only a better one takes another's place. */
    int matched(int person, boolean byRoad) {
        if (person != -1 && !person(person)) {
            return -2;
        }
        List<int[]> rows = new ArrayList<>();
        rowsFrom(new int[now.feet.length], 0, rows);
        int best = -1;
        int[] bestRow = null;
        for (int[] row : rows) {
            int worth = 0;
            for (int t : row) {
                worth += t == 6 ? 0 : byRoad ? ROAD[orchard.trees.get(t).kind()] : 1;
            }
            if (worth > best) {
                best = worth;
                bestRow = row;
            }
        }
        if (person == -1) {
            return best;
        }
        return bestRow[person] == 6 ? -1 : bestRow[person];
    }

    private void rowsFrom(int[] row, int p, List<int[]> rows) {
        if (p == row.length) {
            rows.add(row.clone());
            return;
        }
        for (int t = 0; t <= 6; t++) {
            boolean free = t == 6 || tree(t) && now.shod[p] == -1 && !now.taken(t) && now.fits(p, t);
            for (int before = 0; before < p; before++) {
                free &= t == 6 || row[before] != t;
            }
            if (free) {
                row[p] = t;
                rowsFrom(row, p + 1, rows);
            }
        }
    }

    int order(int what) {
        List<Integer> waiting = new ArrayList<>();
        for (int p = 0; p < now.feet.length; p++) {
            if (now.shod[p] == -1) {
                waiting.add(p);
            }
        }
        List<List<Integer>> rows = new ArrayList<>();
        permute(waiting, new ArrayList<>(), rows);
        int best = -1;
        List<Integer> bestRow = null;
        for (List<Integer> row : rows) {
            World w = now.copy();
            int shod = 0;
            for (int p : row) {
                for (int t = 0; t < w.last.length && w.shod[p] == -1; t++) {
                    w.tryOn(p, t);
                }
                shod += w.shod[p] != -1 ? 1 : 0;
            }
            if (shod > best) {
                best = shod;
                bestRow = row;
            }
        }
        if (what == -1) {
            return best;
        }
        return what >= 0 && what < bestRow.size() ? bestRow.get(what) : -2;
    }

    private static void permute(List<Integer> left, List<Integer> row, List<List<Integer>> rows) {
        if (left.isEmpty()) {
            rows.add(new ArrayList<>(row));
        }
        for (Integer p : left) {
            List<Integer> others = new ArrayList<>(left);
            others.remove(p);
            row.add(p);
            permute(others, row, rows);
            row.remove(row.size() - 1);
        }
    }

    int mends(int p) {
        if (!person(p)) {
            return -1;
        }
        List<World> worlds = List.of(now);
        for (int steps = 0; steps <= 2; steps++) {
            List<World> next = new ArrayList<>();
            for (World w : worlds) {
                if (w.anyFits(p)) {
                    return steps;
                }
                for (int t = 0; t < w.last.length && steps < 2; t++) {
                    World pruned = w.copy();
                    pruned.last[t] = Math.max(0, w.last[t] - 1);
                    next.add(pruned);
                    for (int o = 0; o < w.last.length; o++) {
                        World grafted = w.copy();
                        grafted.last[t] = (w.last[t] + w.last[o]) / 2;
                        next.add(grafted);
                    }
                }
            }
            worlds = next;
        }
        return -1;
    }

    int when(int p) {
        if (!person(p)) {
            return -1;
        }
        World w = now.copy();
        for (int years = 0; years <= 40; years++, w.year()) {
            if (w.anyFits(p)) {
                return years;
            }
        }
        return -1;
    }

    int later(int t, int years) {
        if (!tree(t) || years < 0 || years > 40) {
            return -1;
        }
        World w = now.copy();
        for (int i = 0; i < years; i++) {
            w.year();
        }
        return w.bears(t) ? w.size(t) : -1;
    }

    private List<Integer> allFeet() {
        List<Integer> all = new ArrayList<>();
        for (int f = 0; f <= 40; f++) {
            boolean so = true;
            for (Feeling feeling : felt) {
                int t = feeling.tree();
                so &= !now.bears(t) || near(f, t) == feeling.fitted();
            }
            if (so) {
                all.add(f);
            }
        }
        return all;
    }

    private boolean near(int feet, int tree) {
        return Math.abs(now.size(tree) - feet) <= orchard.pinch();
    }

    int feet(int what) {
        List<Integer> all = allFeet();
        if (what == 0) {
            return all.size();
        }
        if (what < 0 || what > 2 || all.isEmpty()) {
            return -1;
        }
        return what == 1 ? Collections.min(all) : Collections.max(all);
    }

    int ask() {
        List<Integer> all = allFeet();
        int best = -1;
        int least = all.size();
        for (int t = 0; t < now.last.length; t++) {
            if (now.bears(t)) {
                int tree = t;
                int fitting = (int) all.stream().filter(f -> near(f, tree)).count();
                int greater = Math.max(fitting, all.size() - fitting);
                if (greater < least) {
                    least = greater;
                    best = t;
                }
            }
        }
        return best;
    }

    int pairs() {
        int n = 0;
        for (int p = 0; p < now.feet.length; p++) {
            for (int q = 0; q < p; q++) {
                boolean both = false;
                for (int t = 0; t < now.last.length; t++) {
                    both |= now.fits(p, t) && now.fits(q, t);
                }
                n += both ? 1 : 0;
            }
        }
        return n;
    }

    int idle() {
        int bits = 0;
        for (int t = 0; t < now.last.length; t++) {
            bits |= wearers(t) == 0 ? 1 << t : 0;
        }
        return bits;
    }

    int sole() {
        int bits = 0;
        for (int p = 0; p < now.feet.length; p++) {
            int n = 0;
            for (int t = 0; t < now.last.length; t++) {
                n += now.fits(p, t) ? 1 : 0;
            }
            bits |= n == 1 ? 1 << p : 0;
        }
        return bits;
    }

    int twins() {
        int n = 0;
        for (int t = 0; t < now.last.length; t++) {
            for (int o = 0; o < t; o++) {
                n += now.bears(t) && now.bears(o) && now.size(t) == now.size(o) ? 1 : 0;
            }
        }
        return n;
    }

    int best() {
        int best = -1;
        for (int t = now.last.length - 1; t >= 0; t--) {
            if (now.bears(t) && (best == -1 || Integer.bitCount(wearers(t)) >= Integer.bitCount(wearers(best)))) {
                best = t;
            }
        }
        return best;
    }

    int lack(int p) {
        if (!person(p)) {
            return -1;
        }
        for (int more = 0; more < 100; more++) {
            for (int t = 0; t < now.last.length; t++) {
                if (now.fits(p, t, orchard.pinch() + more)) {
                    return more;
                }
            }
        }
        return -1;
    }

    int chance(int p, int years, int odds) {
        if (!person(p) || years < 1 || years > 6 || odds < 0 || odds > 10) {
            return -1;
        }
        long sum = 0;
        long whole = 1;
        for (int i = 0; i < years; i++) {
            whole *= 10;
        }
        for (int colds = 0; colds < 1 << years; colds++) {
            World w = now.copy();
            long weight = 1;
            for (int i = 0; i < years; i++) {
                boolean cold = (colds >> i & 1) != 0;
                weight *= cold ? odds : 10 - odds;
                w.year(cold ? 3 : 0);
            }
            sum += w.anyFits(p) ? weight : 0;
        }
        return (int) (sum * 1_000_000 / whole);
    }

    /** -99 where the program throws. */
    int rests(int both, int loses, int gets, int what) {
        if (Math.min(both, Math.min(loses, gets)) < 0 || Math.max(both, Math.max(loses, gets)) > 9) {
            return -99;
        }
        List<Integer> rests = new ArrayList<>();
        if (0 >= -loses) {
            rests.add(0);
        }
        if (-loses >= 0 && gets >= both) {
            rests.add(1);
            rests.add(2);
        }
        if (both >= gets) {
            rests.add(3);
        }
        if (what == -1) {
            return rests.size();
        }
        return what >= 0 && what < rests.size() ? rests.get(what) : -99;
    }

    int ages(int seed, int steps, int what) {
        if (seed < 0 || seed > 9999 || steps < 1 || steps > 99 || what < 0 || what > 2) {
            return -1;
        }
        long[] g = {seed};
        World w = now.copy();
        int trees = w.last.length;
        int persons = w.feet.length;
        int often = 0;
        for (int i = 0; i < steps && trees > 0 && persons > 0; i++) {
            int p = draw(g, persons);
            int t = draw(g, trees);
            often += w.tryOn(p, t) == 1 ? 1 : 0;
            int luck = draw(g, 6);
            if (luck == 0) {
                w.year();
            }
            if (luck == 1) {
                int one = draw(g, trees);
                int other = draw(g, trees);
                w.last[one] = (w.last[one] + w.last[other]) / 2;
            }
        }
        return new int[] {often, w.year, w.roads() - now.roads()}[what];
    }

    private static int draw(long[] g, int m) {
        g[0] = (g[0] * 1103515245 + 12345) & 0x7fffffffL;
        return (int) ((g[0] >> 16) % m);
    }

    int count(int what) {
        int bearing = 0;
        for (int t = 0; t < now.last.length; t++) {
            bearing += now.bears(t) ? 1 << t : 0;
        }
        int shod = 0;
        for (int p = 0; p < now.feet.length; p++) {
            shod += now.shod[p] >= 0 ? 1 << p : 0;
        }
        int[] counts = {now.last.length, now.feet.length, orchard.pinch(), orchard.noon(), now.year, orchard.frost(now.year),
            bearing, shod, now.roads(), morning.size(), felt.size(), past.size(), tape.length()};
        return what >= 0 && what < counts.length ? counts[what] : -1;
    }
}
