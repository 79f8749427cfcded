/** Boundaries of CHANCE, TRYING, DRAWS and AGES ("Terms", ==== 3., promises 32 to 34). */
final class ChanceEdges {
    private static final int[] EDGES = {Integer.MIN_VALUE, -2, -1, 0, 1, 2, 3, 4, 5, 6, 7, 8, 9, 10, 11, 12, Integer.MAX_VALUE};

    private ChanceEdges() {
    }

    static void run() {
        oneToSixYears();
        oddsOfTen();
        frostToldOfThatYear();
        inPlaceOfWhatIsTold();
        cut();
        chanceOfOthers();
        paysNoughtToNine();
        restsByOther();
        noSuchRest();
        drawsBelow();
        seedsAndSteps();
        treesAndPersons();
        triesThatCanBe();
        yearsAndGrafts();
        asAhead();
        steps();
        lastsOfAges();
        oldTreesOfAges();
        grownFeetOfAges();
    }

    private static int power(int base, int often) {
        int value = 1;
        for (int i = 0; i < often; i++) {
            value *= base;
        }
        return value;
    }

    private static int ways(int all, int some) {
        return some == 0 ? 1 : ways(all - 1, some - 1) * all / some;
    }

    private static void oneToSixYears() {
        Sentence.of("32", "this year's frost and those to come, so many (1 to 6) in all");
        ShoeOrchard x = Check.of(OneAndOne.text("boot", 9, "plain", 9));
        for (int years : EDGES) {
            Check.due(years + " years", x.chance(0, years, 5), years >= 1 && years <= 6 ? 1000000 : -1);
        }
        ShoeOrchard y = Check.of(OneAndOne.text("brogue", 9, "plain", 3) + "pinch 0 ;");
        Check.dueRow("six cold ones", new int[] {y.chance(0, 5, 10), y.chance(0, 6, 10)}, 0, 1000000);
        ShoeOrchard z = Check.of(OneAndOne.text("brogue", 9, "plain", 8) + "pinch 0 ;");
        Check.dueRow("this one's alone", new int[] {z.chance(0, 1, 10), z.chance(0, 1, 3), z.chance(0, 2, 10)}, 1000000, 300000, 0);
    }

    private static void oddsOfTen() {
        Sentence.of("32", "are 3 by odds of ten each, else 0");
        for (int cold = 0; cold <= 6; cold++) {
            ShoeOrchard x = Check.of(OneAndOne.text("brogue", 9, "plain", 9 - cold) + "pinch 0 ;");
            for (int years = 1; years <= 6; years++) {
                for (int odds = 0; odds <= 10; odds++) {
                    int due = cold > years ? 0
                            : ways(years, cold) * power(odds, cold) * power(10 - odds, years - cold) * power(10, 6 - years);
                    Check.due(cold + " of " + years + " by " + odds, x.chance(0, years, odds), due);
                }
            }
        }
        int[] stands = {0, 1000000, 0, 0};
        for (int kind = 0; kind < 4; kind++) {
            ShoeOrchard x = Check.of(OneAndOne.text(OneAndOne.TREES[kind], 9, "plain", 9) + "pinch 0 ;");
            Check.due("3 is above what a " + OneAndOne.TREES[kind] + " stands", x.chance(0, 1, 10), stands[kind]);
            Check.due("0 is not", x.chance(0, 1, 0), 1000000);
        }
        ShoeOrchard low = Check.of(OneAndOne.text("slipper", 2, "plain", 0) + "pinch 0 ;");
        Check.dueRow("0 at least", new int[] {low.chance(0, 1, 5), low.chance(0, 2, 5), low.chance(0, 3, 5), low.chance(0, 6, 10)},
                0, 250000, 500000, 1000000);
    }

    private static void frostToldOfThatYear() {
        Sentence.of("32", "that behind as many YEARS some TREE that BEARS (by the frost told of that year) FITS a PERSON");
        ShoeOrchard x = Check.of(OneAndOne.text("brogue", 9, "plain", 9) + "pinch 0 ; frost 0 1 2 3 ;");
        int[] due = {1000000, 0, 0, 1000000, 1000000, 0};
        for (int years = 1; years <= 6; years++) {
            Check.due("in " + years, x.chance(0, years, 0), due[years - 1]);
        }
        x.year();
        Check.due("from year 1", x.chance(0, 1, 0), 0);
        Check.due("from year 1", x.chance(0, 3, 0), 1000000);
        ShoeOrchard chill = Check.of(OneAndOne.text("boot", 0, "plain", 2) + "pinch 0 ; frost 0 1 2 ; bears chill ;");
        Check.dueRow("chill, too", new int[] {chill.chance(0, 1, 10), chill.chance(0, 2, 10), chill.chance(0, 3, 10)}, 0, 1000000, 0);
        ShoeOrchard two = Check.of("tree a boot last 5 age 0 ; tree b brogue last 5 age 0 ; person p plain feet 5 ; person q plain feet 4 ; pinch 0 ;");
        Check.dueRow("some TREE", new int[] {two.chance(0, 1, 5), two.chance(1, 1, 5)}, 1000000, 500000);
        two.tryOn(0, 0);
        Check.due("whoever has it", two.chance(0, 1, 5), 1000000);
    }

    private static void inPlaceOfWhatIsTold() {
        Sentence.of("32", "in place of what is told");
        for (int frost = 0; frost <= 3; frost++) {
            ShoeOrchard x = Check.of(OneAndOne.text("slipper", 9, "plain", 9) + "pinch 0 ; frost " + frost + " 0 ;");
            Check.due("told " + frost + ", odds 0", x.chance(0, 1, 0), 1000000);
            Check.due("told " + frost + ", odds 10", x.chance(0, 1, 10), 0);
            Check.due("told " + frost + ", odds 4", x.chance(0, 1, 4), 600000);
        }
    }

    private static void cut() {
        Sentence.of("32", "in millionths, cut");
        ShoeOrchard x = Check.of(OneAndOne.text("slipper", 9, "plain", 9) + "pinch 0 ;");
        Check.dueRow("the least there are", new int[] {x.chance(0, 6, 9), x.chance(0, 6, 10), x.chance(0, 6, 1), x.chance(0, 6, 0)},
                1, 0, 531441, 1000000);
        ShoeOrchard y = Check.of(OneAndOne.text("slipper", 9, "plain", 6) + "pinch 3 ;");
        Check.dueRow("all, but one of them", new int[] {y.chance(0, 6, 5), y.chance(0, 6, 9)},
                1000000, 1000000);
        ShoeOrchard z = Check.of(OneAndOne.text("slipper", 9, "plain", 9) + "pinch 5 ;");
        Check.dueRow("all but six cold ones", new int[] {z.chance(0, 6, 1), z.chance(0, 6, 9)}, 999999, 1000000 - 531441);
    }

    private static void chanceOfOthers() {
        Sentence.of("32", "CHANCE, by odds (0 to 10); NONE: others");
        ShoeOrchard x = Check.of(OneAndOne.text("boot", 9, "plain", 9));
        for (int other : EDGES) {
            Check.due("odds " + other, x.chance(0, 1, other), other >= 0 && other <= 10 ? 1000000 : -1);
            Check.due("person " + other, x.chance(other, 1, 5), other == 0 ? 1000000 : -1);
        }
        Check.due("nobody", new ShoeOrchard().chance(0, 1, 5), -1);
        ShoeOrchard none = Check.of("person p plain feet 5 ;");
        Check.due("no TREE", none.chance(0, 1, 5), 0);
    }

    private static void paysNoughtToNine() {
        Sentence.of("33", "both try: each gets so much (0 to 9); one tries: he loses so much (0 to 9), the other one gets so much (0 to 9)");
        ShoeOrchard x = new ShoeOrchard();
        for (int pay : EDGES) {
            boolean asTold = pay >= 0 && pay <= 9;
            Check.due("both " + pay, Check.rests(x, pay, 1, 5, -1), asTold ? pay >= 5 ? 2 : 1 : -99);
            Check.due("loses " + pay, Check.rests(x, 5, pay, 5, -1), asTold ? pay == 0 ? 4 : 2 : -99);
            Check.due("gets " + pay, Check.rests(x, 5, 1, pay, -1), asTold ? pay <= 5 ? 2 : 1 : -99);
        }
    }

    private static void restsByOther() {
        Sentence.of("33", "both keep: nothing: RESTS: by which neither would get more by the other");
        for (int pays = 0; pays < 1000; pays++) {
            ShoeOrchard x = new ShoeOrchard();
            int both = pays / 100;
            int loses = pays / 10 % 10;
            int gets = pays % 10;
            int[] due = new int[4];
            int number = 0;
            due[number++] = 0;
            if (loses == 0 && gets >= both) {
                due[number++] = 1;
                due[number++] = 2;
            }
            if (both >= gets) {
                due[number++] = 3;
            }
            Check.due("how many of " + pays, Check.rests(x, both, loses, gets, -1), number);
            for (int i = 0; i <= 4; i++) {
                Check.due(i + " of " + pays, Check.rests(x, both, loses, gets, i), i < number ? due[i] : -99);
            }
        }
    }

    private static void noSuchRest() {
        Sentence.of("33", "NoSuchElementException: others, none such");
        ShoeOrchard x = new ShoeOrchard();
        for (int what : EDGES) {
            Check.due("of four, " + what, Check.rests(x, 0, 0, 0, what), what == -1 ? 4 : what >= 0 && what <= 3 ? what : -99);
            Check.due("of one, " + what, Check.rests(x, 0, 1, 1, what), what == -1 ? 1 : what == 0 ? 0 : -99);
            Check.due("of wrong ones, " + what, Check.rests(x, 10, 1, 1, what), -99);
            Check.due("of wrong ones, " + what, Check.rests(x, 1, -1, 1, what), -99);
            Check.due("of wrong ones, " + what, Check.rests(x, 1, 1, 10, what), -99);
        }
    }

    /** The n-th DRAW (from 1) of a SEED, before it is taken below something. */
    private static int drawn(int seed, int n) {
        java.math.BigInteger g = java.math.BigInteger.valueOf(seed);
        for (int i = 0; i < n; i++) {
            g = g.multiply(java.math.BigInteger.valueOf(1103515245)).add(java.math.BigInteger.valueOf(12345))
                    .mod(java.math.BigInteger.valueOf(2147483648L));
        }
        return g.intValueExact() / 65536;
    }

    private static final int[] SEEDS = {0, 1, 2, 3, 5, 77, 1234, 4095, 8192, 9998, 9999};

    private static void drawsBelow() {
        Sentence.of("34", "A DRAW below m: g becomes (g * 1103515245 + 12345) modulo 2147483648 (g is the SEED at first); "
                + "it is g / 65536, cut, modulo m");
        Check.dueRow("draws of 1", new int[] {drawn(1, 1), drawn(1, 2), drawn(1, 3), drawn(1, 4)}, 16838, 5758, 10113, 17515);
        for (int number = 1; number <= 6; number++) {
            StringBuilder text = new StringBuilder("pinch 0 ; ");
            for (int i = 0; i < number; i++) {
                text.append("tree t").append((char) ('a' + i)).append(" boot last ").append(3 * i).append(" age 0 ; person p")
                        .append((char) ('a' + i)).append(" plain feet ").append(3 * i).append(" ; ");
            }
            ShoeOrchard x = Check.of(text.toString());
            for (int seed : SEEDS) {
                boolean meet = drawn(seed, 1) % number == drawn(seed, 2) % number;
                Check.due("below " + number + " by " + seed, x.ages(seed, 1, 0), meet ? 1 : 0);
                Check.due("the year by " + seed, x.ages(seed, 1, 1), drawn(seed, 3) % 6 == 0 ? 1 : 0);
            }
        }
        ShoeOrchard y = Check.of("tree a brogue last 5 age 0 ; tree b boot last 5 age 0 ; tree c slipper last 5 age 0 ; "
                + "tree d sandal last 5 age 0 ; person p plain feet 5 ;");
        for (int seed : SEEDS) {
            Check.due("road by " + seed, y.ages(seed, 1, 2), OneAndOne.ROADS[drawn(seed, 2) % 4]);
        }
    }

    private static void seedsAndSteps() {
        Sentence.of("34", "AGES by a SEED (0 to 9999), what 0: how often, 1: the year, 2: road; NONE: others");
        ShoeOrchard x = Check.of(OneAndOne.text("boot", 5, "plain", 5));
        for (int seed : new int[] {Integer.MIN_VALUE, -2, -1, 0, 1, 9998, 9999, 10000, 10001, Integer.MAX_VALUE}) {
            boolean asTold = seed >= 0 && seed <= 9999;
            Check.due("seed " + seed, x.ages(seed, 1, 0), asTold ? 1 : -1);
        }
        for (int steps : new int[] {Integer.MIN_VALUE, -1, 0, 1, 2, 98, 99, 100, 101, Integer.MAX_VALUE}) {
            boolean asTold = steps >= 1 && steps <= 99;
            Check.due("steps " + steps, x.ages(1, steps, 0) >= 1, asTold);
            Check.due("steps " + steps, x.ages(1, steps, 1) == -1, !asTold);
        }
        for (int what : EDGES) {
            Check.due("what " + what, x.ages(1, 1, what), what == 0 ? 1 : what == 1 ? 0 : what == 2 ? 2 : -1);
        }
        Check.due("all wrong", x.ages(-1, 0, 3), -1);
    }

    private static void treesAndPersons() {
        Sentence.of("34", "each, if there are TREES and PERSONS");
        String[] texts = {"", "tree a boot last 5 age 0 ;", "person p plain feet 5 ;"};
        for (String text : texts) {
            ShoeOrchard x = Check.of(text);
            x.year();
            for (int seed : SEEDS) {
                Check.dueRow("nothing by " + seed, new int[] {x.ages(seed, 99, 0), x.ages(seed, 99, 1), x.ages(seed, 99, 2)}, 0, 1, 0);
            }
        }
    }

    private static void triesThatCanBe() {
        Sentence.of("34", "a DRAW below PERSONS, one below TREES: that TRY, if it can be");
        // seed 1 draws for two trees: a, b with nothing behind each; then the year
        for (int noon = 1; noon <= 2; noon++) {
            ShoeOrchard x = Check.of("tree a boot last 9 age 0 ; tree b boot last 5 age 0 ; person p plain feet 5 ; noon " + noon + " ;");
            Check.dueRow("noon " + noon, new int[] {x.ages(1, 1, 0), x.ages(1, 2, 0), x.ages(1, 2, 2)}, 0, noon - 1, 2 * (noon - 1));
            x.tryOn(0, 0);
            Check.due("tried once of " + noon, x.ages(1, 2, 0), 0);
        }
        ShoeOrchard both = Check.of("tree a boot last 5 age 0 ; tree b boot last 5 age 0 ; person p plain feet 5 ;");
        Check.dueRow("SHOD by a, not again by b", new int[] {both.ages(1, 1, 0), both.ages(1, 2, 0), both.ages(1, 2, 2)}, 1, 1, 2);
        both.tryOn(0, 1);
        Check.dueRow("SHOD already", new int[] {both.ages(1, 1, 0), both.ages(1, 2, 0), both.ages(1, 2, 2)}, 0, 0, 0);
        ShoeOrchard cold = Check.of("tree a slipper last 5 age 0 ; tree b boot last 5 age 0 ; person p plain feet 5 ; frost 1 ;");
        Check.dueRow("a does not BEAR", new int[] {cold.ages(1, 1, 0), cold.ages(1, 2, 0)}, 0, 1);
    }

    private static void yearsAndGrafts() {
        Sentence.of("34", "a DRAW below 6: 0: the YEAR, 1: a DRAW below TREES, one more: that GRAFT, if these are not the same");
        int years = 0;
        int grafts = 0;
        for (int seed = 0; seed < 200; seed++) {
            int luck = drawn(seed, 3) % 6;
            ShoeOrchard x = Check.of("tree a boot last 0 age 0 ; tree b boot last 20 age 0 ; tree c boot last 30 age 0 ; person p plain feet 10 ; "
                    + "person q plain feet 15 ; person r plain feet 25 ; pinch 0 ;");
            Check.due("the year by " + seed, x.ages(seed, 1, 1), luck == 0 ? 1 : 0);
            Check.due("nobody by " + seed, x.ages(seed, 1, 0), 0);
            int behind = luck == 1 ? 5 : 3;
            int[] lasts = {0, 20, 30};
            if (luck == 1) {
                int tree = drawn(seed, 4) % 3;
                lasts[tree] = (lasts[tree] + lasts[drawn(seed, 5) % 3]) / 2;
                grafts++;
            }
            years += luck == 0 ? 1 : 0;
            int feet = new int[] {10, 15, 25}[drawn(seed, behind + 1) % 3];
            Check.due("the second step by " + seed, x.ages(seed, 2, 0), feet == lasts[drawn(seed, behind + 2) % 3] ? 1 : 0);
        }
        Check.due("there were years and grafts", years > 5 && grafts > 5, true);
    }

    private static void asAhead() {
        Sentence.of("34", "from now on (all is as ahead then)");
        ShoeOrchard x = Check.of("tree a boot last 5 age 0 ; tree b slipper last 9 age 0 ; person p child feet 5 ; person q plain feet 9 ; frost 0 1 ;");
        x.tryOn(1, 1);
        x.year();
        x.tryOn(0, 0);
        int[] before = new int[13];
        for (int what = 0; what < 13; what++) {
            before[what] = x.count(what);
        }
        for (int seed : SEEDS) {
            int years = x.ages(seed, 99, 1);
            Check.due("from year 1 on", years >= 1, true);
            Check.due("road less now", x.ages(seed, 99, 2) >= 0, true);
            Check.due("the same again", x.ages(seed, 99, 1), years);
        }
        for (int what = 0; what < 13; what++) {
            Check.due("count " + what, x.count(what), before[what]);
        }
        Check.dueRow("all is as ahead", new int[] {x.person(0, 1), x.person(0, 2), x.person(0, 3), x.tree(0, 1), x.tree(1, 1), x.tree(0, 2)},
                7, -1, 1, 5, 9, 1);
    }

    /** Of boots and plain PERSONS in no frost, by hand. */
    private static int[] played(int seed, int steps, int[] firstLasts, int[] feet, int noon) {
        int[] lasts = firstLasts.clone();
        int[] tried = new int[feet.length];
        int[] shod = new int[feet.length];
        boolean[] taken = new boolean[lasts.length];
        int n = 0;
        int often = 0;
        int year = 0;
        for (int step = 0; step < steps; step++) {
            int person = drawn(seed, ++n) % feet.length;
            int tree = drawn(seed, ++n) % lasts.length;
            if (shod[person] == 0 && tried[person] < noon && !taken[tree]) {
                tried[person]++;
                if (Math.abs(lasts[tree] - feet[person]) <= 1) {
                    shod[person] = 1;
                    taken[tree] = true;
                    often++;
                }
            }
            int luck = drawn(seed, ++n) % 6;
            if (luck == 0) {
                year++;
                tried = new int[feet.length];
                shod = new int[feet.length];
                taken = new boolean[lasts.length];
            } else if (luck == 1) {
                int one = drawn(seed, ++n) % lasts.length;
                int other = drawn(seed, ++n) % lasts.length;
                lasts[one] = one == other ? lasts[one] : (lasts[one] + lasts[other]) / 2;
            }
        }
        return new int[] {often, year, 2 * often};
    }

    private static void steps() {
        Sentence.of("34", "AGES by a SEED of so many steps (1 to 99)");
        int[] lasts = {3, 9, 15, 21, 27};
        int[] feet = {4, 8, 12, 16};
        for (int noon = 1; noon <= 6; noon++) {
            StringBuilder text = new StringBuilder("noon " + noon + " ; ");
            for (int i = 0; i < lasts.length; i++) {
                text.append("tree t").append((char) ('a' + i)).append(" boot last ").append(lasts[i]).append(" age 0 ; ");
            }
            for (int i = 0; i < feet.length; i++) {
                text.append("person p").append((char) ('a' + i)).append(" plain feet ").append(feet[i]).append(" ; ");
            }
            ShoeOrchard x = Check.of(text.toString());
            for (int seed : SEEDS) {
                for (int steps : new int[] {1, 2, 3, 50, 98, 99}) {
                    int[] due = played(seed, steps, lasts, feet, noon);
                    Check.dueRow(steps + " steps by " + seed, new int[] {x.ages(seed, steps, 0), x.ages(seed, steps, 1), x.ages(seed, steps, 2)}, due);
                }
            }
        }
    }

    /** How often one is SHOD by a TRY, a YEAR and another TRY, of one TREE and one PERSON. */
    private static void tryYearTry(String what, ShoeOrchard x, int due) {
        int found = 0;
        for (int seed = 0; seed < 200 && found < 4; seed++) {
            if (drawn(seed, 3) % 6 == 0) {
                found++;
                Check.due(what + " by " + seed, x.ages(seed, 2, 0), due);
            }
        }
        Check.due("there were years", found, 4);
    }

    private static void lastsOfAges() {
        Sentence.of("34", "each TREE that does not BEAR has its last 1 less (0 at least)");
        for (int last = 0; last <= 3; last++) {
            for (int feet = 7; feet <= 11; feet++) {
                ShoeOrchard x = Check.of(OneAndOne.text("slipper", last, "plain", feet) + "pinch 0 ; frost 1 0 ; bears 10 - size ;");
                tryYearTry("last " + last + ", feet " + feet, x, 10 - Math.max(0, last - 1) == feet ? 1 : 0);
            }
        }
    }

    private static void oldTreesOfAges() {
        Sentence.of("34", "all TREES are 1 older (99 at most)");
        ShoeOrchard x = Check.of(OneAndOne.text("boot", 0, "plain", 30).replace("age 0", "age 20") + "pinch 0 ; bears years - 69 ;");
        ShoeOrchard y = Check.of(OneAndOne.text("boot", 0, "plain", 30).replace("age 0", "age 20") + "pinch 0 ; bears years - 70 ;");
        for (int age = 20; age <= 101; age++) {
            if (age >= 97) {
                tryYearTry("99 by " + age, x, age == 97 ? 0 : age == 98 ? 1 : 2);
                tryYearTry("100 by " + age, y, 0);
            }
            x.year();
            y.year();
        }
    }

    private static void grownFeetOfAges() {
        Sentence.of("34", "a child has 2 more feet (40 at most)");
        for (int feet = 28; feet <= 30; feet++) {
            ShoeOrchard x = Check.of(OneAndOne.text("boot", 0, "child", feet) + "pinch 0 ; bears 40 ;");
            for (int year = 0; year <= 7; year++) {
                boolean now = feet + 2 * year >= 40;
                boolean then = feet + 2 * year + 2 >= 40;
                tryYearTry(feet + " in year " + year, x, (now ? 1 : 0) + (then ? 1 : 0));
                x.year();
            }
        }
    }
}
