import java.util.ArrayList;
import java.util.List;
import java.util.Random;

/** Runs of random calls, always the same ones, each answer held against the Oracle's. */
public final class OracleTest {
    private static final int RUNS = 900;
    /** A told text may go beyond it, but not beyond 512. */
    private static final int CALLS = 400;
    private static final String[] WORDS = ("tree last age person feet pinch noon frost bears try share graft prune year brogue "
            + "boot slipper sandal plain child hopper old not and or size years chill date ta tb tc pa pb pc ( ) < = + - * ; ; "
            + "0 1 5 31 12345 abcdefghi A , 9999").split(" ");

    private final Random random;
    private final ShoeOrchard program = new ShoeOrchard();
    private final Oracle oracle = new Oracle();
    private final int run;
    private int calls = 0;

    private OracleTest(int run) {
        this.run = run;
        this.random = new Random(run);
    }

    public static void main(String[] args) {
        for (int run = 0; run < RUNS; run++) {
            new OracleTest(run).go();
        }
        Check.end();
    }

    private void go() {
        if (random.nextInt(20) > 0) {
            tell(orchardText(), true);
        }
        while (calls < CALLS) {
            int luck = random.nextInt(100);
            if (luck < 2) {
                tell(broken(orchardText()), true);
            } else if (luck < 4) {
                tell(morningText(), false);
            } else if (luck < 5) {
                tell(broken(morningText()), false);
            } else if (luck < 6 && random.nextInt(3) == 0) {
                tell(orchardText(), true);
            } else if (luck < 60) {
                act();
            } else if (luck < 80) {
                askMuch();
            } else {
                askLittle();
            }
        }
    }

    private void due(String call, long got, long want) {
        calls++;
        Check.due("run " + run + ": " + call, got, want);
    }

    private void due(String call, boolean got, boolean want) {
        due(call, got ? 1 : 0, want ? 1 : 0);
    }

    private int below(int bound) {
        return random.nextInt(bound);
    }

    /** Mostly one that is there, now and then one beside. */
    private int some(int there) {
        int luck = below(30);
        if (luck == 0) {
            return -1 - below(2);
        }
        if (luck == 1) {
            return there + below(2);
        }
        if (luck == 2 && below(10) == 0) {
            return below(2) == 0 ? Integer.MAX_VALUE : Integer.MIN_VALUE;
        }
        return below(Math.max(1, there));
    }

    private int tree() {
        return some(oracle.count(0));
    }

    private int person() {
        return some(oracle.count(1));
    }

    private void tell(String text, boolean orchard) {
        for (int from = 0; from < text.length(); from += 24) {
            long a = Check.packed(text, from);
            long b = Check.packed(text, from + 8);
            long c = Check.packed(text, from + 16);
            due("feed", program.feed(a, b, c), oracle.feed(a, b, c));
        }
        if (orchard) {
            due("orchard " + text, program.orchard(), oracle.orchard());
        } else {
            due("morning " + text, program.morning(), oracle.morning());
        }
    }

    private void act() {
        switch (below(9)) {
            case 0, 1, 2, 3 -> {
                int p = person();
                int t = tree();
                due("tryOn " + p + " " + t, program.tryOn(p, t), oracle.tryOn(p, t));
            }
            case 4 -> {
                int p = person();
                int q = person();
                due("share " + p + " " + q, program.share(p, q), oracle.share(p, q));
            }
            case 5 -> {
                int t = tree();
                int u = tree();
                due("graft " + t + " " + u, program.graft(t, u), oracle.graft(t, u));
            }
            case 6 -> {
                int t = tree();
                due("prune " + t, program.prune(t), oracle.prune(t));
            }
            case 7 -> due("year", program.year(), oracle.year());
            default -> rare();
        }
    }

    private void rare() {
        switch (below(3)) {
            case 0 -> due("undo", program.undo(), oracle.undo());
            case 1 -> {
                int m = some(4);
                boolean back = random.nextBoolean();
                due("mark " + m + back, program.mark(m, back), oracle.mark(m, back));
            }
            default -> {
                int t = tree();
                boolean fitted = below(4) == 0;
                due("feel " + t + fitted, program.feel(t, fitted), oracle.feel(t, fitted));
            }
        }
    }

    private void askMuch() {
        int p = person();
        int t = tree();
        switch (below(9)) {
            case 0 -> {
                int q = below(40) == 0 ? person() : below(4) == 0 ? -1 : p;
                due("shoes " + q, program.shoes(q), oracle.matched(q, false));
            }
            case 1 -> {
                int q = below(4) == 0 ? -1 : p;
                due("roads " + q, program.roads(q), oracle.matched(q, true));
            }
            case 2 -> {
                int q = below(4) == 0 ? -1 : p;
                due("order " + q, program.order(q), oracle.order(q));
            }
            case 3 -> due("mends " + p, program.mends(p), oracle.mends(p));
            case 4 -> due("when " + p, program.when(p), oracle.when(p));
            case 5 -> {
                int years = some(41);
                due("later " + t + " " + years, program.later(t, years), oracle.later(t, years));
            }
            case 6 -> {
                int years = 1 + some(6);
                int odds = some(11);
                due("chance " + p + " " + years + " " + odds, program.chance(p, years, odds), oracle.chance(p, years, odds));
            }
            case 7 -> {
                int seed = some(10000);
                int steps = 1 + some(99);
                int what = some(3);
                due("ages " + seed + " " + steps + " " + what, program.ages(seed, steps, what), oracle.ages(seed, steps, what));
            }
            default -> {
                int both = some(10);
                int loses = below(3) == 0 ? 0 : some(10);
                int gets = some(10);
                int what = some(4) - 1;
                due("rests " + both + " " + loses + " " + gets + " " + what,
                        Check.rests(program, both, loses, gets, what), oracle.rests(both, loses, gets, what));
            }
        }
    }

    private void askLittle() {
        int p = person();
        int t = tree();
        int what = some(13);
        switch (below(16)) {
            case 0 -> due("tree " + t + " " + what / 2, program.tree(t, what / 2), oracle.tree(t, what / 2));
            case 1 -> due("person " + p + " " + what / 2, program.person(p, what / 2), oracle.person(p, what / 2));
            case 2 -> due("fits " + p + " " + t, program.fits(p, t), oracle.fits(p, t));
            case 3 -> due("judged " + what / 4, program.judged(what / 4), oracle.judged(what / 4));
            case 4 -> due("fitted " + p, program.fitted(p), oracle.fitted(p));
            case 5 -> due("wearers " + t, program.wearers(t), oracle.wearers(t));
            case 6, 7 -> due("feet " + what / 4, program.feet(what / 4), oracle.feet(what / 4));
            case 8 -> due("ask", program.ask(), oracle.ask());
            case 9 -> due("pairs", program.pairs(), oracle.pairs());
            case 10 -> due("idle", program.idle(), oracle.idle());
            case 11 -> due("sole", program.sole(), oracle.sole());
            case 12 -> due("twins", program.twins(), oracle.twins());
            case 13 -> due("best", program.best(), oracle.best());
            case 14 -> due("lack " + p, program.lack(p), oracle.lack(p));
            default -> due("count " + what, program.count(what), oracle.count(what));
        }
    }

    // ---- texts

    private String orchardText() {
        List<String> lines = new ArrayList<>();
        int middle = below(31);
        int spread = 1 + below(12);
        int trees = below(7);
        for (int t = 0; t < trees; t++) {
            lines.add("tree t" + (char) ('a' + t) + " " + WORDS[14 + below(4)] + " last " + near(middle, spread) + " age " + below(21));
        }
        int persons = below(7);
        for (int p = 0; p < persons; p++) {
            lines.add("person p" + (char) ('a' + p) + " " + WORDS[18 + below(4)] + " feet " + near(middle, spread));
        }
        if (below(4) > 0) {
            lines.add("pinch " + below(random.nextBoolean() ? 3 : 6));
        }
        if (below(4) > 0) {
            lines.add("noon " + (1 + below(6)));
        }
        if (below(4) > 0) {
            StringBuilder frost = new StringBuilder("frost");
            for (int n = 1 + below(12); n > 0; n--) {
                frost.append(" ").append(below(3) == 0 ? below(4) : below(2));
            }
            lines.add(frost.toString());
        }
        if (below(3) > 0) {
            lines.add("bears " + (random.nextBoolean() ? "size + " + formula(1) : formula(0)));
        }
        StringBuilder text = new StringBuilder();
        while (!lines.isEmpty()) {
            text.append(lines.remove(below(3) == 0 ? below(lines.size()) : 0)).append(below(2) == 0 ? ";" : " ;\n");
        }
        return text.length() > 1000 ? "" : text.toString();
    }

    private int near(int middle, int spread) {
        return Math.max(0, Math.min(30, middle + below(2 * spread + 1) - spread));
    }

    private String formula(int within) {
        StringBuilder text = new StringBuilder(formulaPart(within));
        boolean compared = false;
        for (int more = below(4); more > 0; more--) {
            int luck = below(9);
            if (luck < 2 && !compared) {
                text.append(luck == 0 ? " < " : "=");
                compared = true;
            } else if (luck < 4) {
                text.append(luck == 3 ? " and " : " or ");
                compared = false;
            } else {
                text.append(luck < 6 ? "+" : luck < 8 ? " - " : "*");
            }
            text.append(formulaPart(within));
        }
        return text.toString();
    }

    private String formulaPart(int within) {
        int luck = below(within >= 4 ? 8 : 11);
        if (luck < 2) {
            return String.valueOf(below(luck == 0 ? 10 : 10000));
        }
        if (luck < 8) {
            return luck < 4 ? "size" : luck < 6 ? "years" : luck == 6 ? "chill" : "date";
        }
        return luck == 8 ? "not " + formulaPart(within + 1) : "(" + formula(within + 1) + ")";
    }

    private String morningText() {
        int trees = Math.max(1, program.count(0));
        int persons = Math.max(1, program.count(1));
        StringBuilder text = new StringBuilder();
        for (int lines = below(below(8) == 0 ? 44 : 14); lines > 0; lines--) {
            String p = "p" + (char) ('a' + below(persons));
            String q = "p" + (char) ('a' + below(persons));
            String t = "t" + (char) ('a' + below(trees));
            String u = "t" + (char) ('a' + below(trees));
            switch (below(8)) {
                case 0 -> text.append("year");
                case 1 -> text.append("prune ").append(t);
                case 2 -> text.append("graft ").append(t).append(" ").append(t.equals(u) && below(9) > 0 ? "tb" : u);
                case 3 -> text.append("share ").append(p).append(" ").append(p.equals(q) && below(9) > 0 ? "pb" : q);
                default -> text.append("try ").append(p).append(" ").append(t);
            }
            text.append(" ; ");
        }
        return text.toString();
    }

    /** A text with a token or a sign changed, put in, or left out, here and there. */
    private String broken(String text) {
        List<String> tokens = new ArrayList<>(List.of(text.split("(?<=[;\\s()])|(?=[;\\s()])")));
        for (int n = 1 + below(3); n > 0 && !tokens.isEmpty(); n--) {
            int at = below(tokens.size());
            switch (below(4)) {
                case 0 -> tokens.remove(at);
                case 1 -> tokens.set(at, WORDS[below(WORDS.length)]);
                case 2 -> tokens.add(at, " " + WORDS[below(WORDS.length)] + (random.nextBoolean() ? " " : ""));
                default -> tokens.set(at, tokens.get(at) + (char) (32 + below(95)));
            }
        }
        String all = String.join("", tokens);
        return below(6) == 0 ? all.substring(0, below(all.length() + 1)) : all;
    }
}
