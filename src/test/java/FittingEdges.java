/** Boundaries of who is fitted by what ("Terms", ==== 3., promises 15 to 22 and 26 to 31). */
final class FittingEdges {
    private FittingEdges() {
    }

    static void run() {
        fittedWhoeverHasThem();
        wearers();
        mostWhoCanBeShod();
        noTwoByOne();
        firstRowOfShoes();
        mostRoad();
        firstRowOfRoads();
        orderOfThoseNotShod();
        orderByNumbers();
        orderTillNoon();
        firstRowOfOrder();
        mendsNoughtToTwo();
        mendsOfWhatBears();
        mendsNow();
        whenNoughtToForty();
        laterNoughtToForty();
        laterIfItBears();
        lastsOfYearsToCome();
        pairs();
        idle();
        sole();
        twins();
        best();
        lack();
        lackOfKinds();
    }

    /** Boots of these lasts, then plain PERSONS of these feet, with pinch 0. */
    private static ShoeOrchard boots(int[] lasts, int[] feet, String more) {
        StringBuilder text = new StringBuilder("pinch 0 ; ");
        for (int i = 0; i < lasts.length; i++) {
            text.append("tree t").append((char) ('a' + i)).append(" boot last ").append(lasts[i]).append(" age 0 ; ");
        }
        for (int i = 0; i < feet.length; i++) {
            text.append("person p").append((char) ('a' + i)).append(" plain feet ").append(feet[i]).append(" ; ");
        }
        return Check.of(text + more);
    }

    private static int[] row(int... row) {
        return row;
    }

    private static void fittedWhoeverHasThem() {
        Sentence.of("15", "FITTED: TREES that BEAR and FIT a PERSON, as bits, whoever has them");
        ShoeOrchard x = boots(row(5, 5, 5, 5, 5, 5), row(5, 6, 5), "");
        Check.dueRow("all six, none", row(x.fitted(0), x.fitted(1)), 63, 0);
        x.tryOn(0, 0);
        x.tryOn(2, 5);
        Check.dueRow("whoever has them", row(x.fitted(0), x.fitted(1), x.fitted(2)), 63, 0, 63);
        ShoeOrchard y = boots(row(5, 6, 7, 8, 9, 10), row(5, 10, 11, 4), "");
        Check.dueRow("the first, the sixth, none", row(y.fitted(0), y.fitted(1), y.fitted(2), y.fitted(3)), 1, 32, 0, 0);
        ShoeOrchard none = boots(row(), row(5), "");
        Check.due("no TREES", none.fitted(0), 0);
    }

    private static void wearers() {
        Sentence.of("16", "WEARERS of a TREE that BEARS: PERSONS whom it FITS");
        ShoeOrchard x = boots(row(5, 6), row(5, 5, 5, 5, 5, 5), "");
        Check.dueRow("all six, none", row(x.wearers(0), x.wearers(1)), 63, 0);
        x.tryOn(3, 0);
        Check.due("who is SHOD, too", x.wearers(0), 63);
        ShoeOrchard y = boots(row(5, 10, 11), row(5, 6, 7, 8, 9, 10), "");
        Check.dueRow("the first, the sixth, none", row(y.wearers(0), y.wearers(1), y.wearers(2)), 1, 32, 0);
        ShoeOrchard none = boots(row(5), row(), "");
        Check.due("no PERSONS", none.wearers(0), 0);
        ShoeOrchard cold = Check.of(OneAndOne.text("slipper", 5, "plain", 5) + "frost 0 1 ;");
        Check.due("it BEARS", cold.wearers(0), 1);
        cold.year();
        Check.due("it does not", cold.wearers(0), -1);
    }

    private static void shoes(ShoeOrchard x, int most, int... row) {
        Check.due("shoes", x.shoes(-1), most);
        for (int person = 0; person < row.length; person++) {
            Check.due("shoes of " + person, x.shoes(person), row[person]);
        }
        Check.due("one more", x.shoes(row.length), -2);
    }

    private static void mostWhoCanBeShod() {
        Sentence.of("17", "SHOES: the most PERSONS who are not SHOD that can be");
        shoes(boots(row(), row(), ""), 0);
        shoes(boots(row(5), row(), ""), 0);
        shoes(boots(row(), row(5), ""), 0, -1);
        shoes(boots(row(5), row(5), ""), 1, 0);
        shoes(boots(row(5), row(6), ""), 0, -1);
        shoes(boots(row(1, 2, 3, 4, 5, 6), row(6, 5, 4, 3, 2, 1), ""), 6, 5, 4, 3, 2, 1, 0);
        ShoeOrchard x = boots(row(5, 5, 5, 5, 5, 5), row(5, 5, 5, 5, 5, 5), "noon 1 ;");
        shoes(x, 6, 0, 1, 2, 3, 4, 5);
        for (int person = 5; person >= 0; person--) {
            x.tryOn(person, person);
            int[] due = new int[6];
            for (int i = 0; i < 6; i++) {
                due[i] = i < person ? i : -1;
            }
            shoes(x, person, due);
        }
        ShoeOrchard y = boots(row(9, 5), row(5), "noon 1 ;");
        y.tryOn(0, 0);
        Check.due("noon has come", y.tryOn(0, 1), -1);
        shoes(y, 1, 1);
    }

    private static void noTwoByOne() {
        Sentence.of("17 18", "each by a TREE that BEARS, FITS, and whose pair nobody has, no two by one");
        ShoeOrchard x = boots(row(5), row(5, 5), "");
        shoes(x, 1, 0, -1);
        x.tryOn(1, 0);
        shoes(x, 0, -1, -1);
        Check.due("roads", x.roads(-1), 0);
        x.undo();
        Check.due("roads", x.roads(-1), 2);
        ShoeOrchard cold = Check.of(OneAndOne.text("slipper", 5, "plain", 5) + "tree b boot last 6 age 0 ; person q plain feet 6 ; frost 0 1 ;");
        shoes(cold, 2, 0, 1);
        cold.year();
        shoes(cold, 1, 1, -1);
        Check.dueRow("roads", row(cold.roads(-1), cold.roads(0), cold.roads(1)), 2, 1, -1);
    }

    private static void firstRowOfShoes() {
        Sentence.of("17", "of equal ones the first row (of TREES, by PERSONS; who is not behind all others): how many; which");
        shoes(boots(row(5), row(5, 5, 5), ""), 1, 0, -1, -1);
        shoes(boots(row(5, 5), row(5, 5, 5), ""), 2, 0, 1, -1);
        shoes(boots(row(5, 5), row(5, 5), ""), 2, 0, 1);
        ShoeOrchard chain = Check.of("tree a boot last 5 age 0 ; tree b boot last 7 age 0 ; tree c boot last 9 age 0 ; "
                + "person p plain feet 6 ; person q plain feet 8 ; person r plain feet 4 ;");
        shoes(chain, 3, 1, 2, 0);
        ShoeOrchard left = Check.of("tree a boot last 5 age 0 ; tree b boot last 7 age 0 ; "
                + "person p plain feet 6 ; person q plain feet 6 ; person r plain feet 4 ; person s plain feet 8 ;");
        shoes(left, 2, 0, 1, -1, -1);
        ShoeOrchard gap = Check.of("tree a boot last 15 age 0 ; tree b boot last 5 age 0 ; person p plain feet 20 ; person q plain feet 5 ; "
                + "person r plain feet 5 ; person s plain feet 15 ;");
        shoes(gap, 2, -1, 1, -1, 0);
    }

    private static void roads(ShoeOrchard x, int most, int... row) {
        Check.due("roads", x.roads(-1), most);
        for (int person = 0; person < row.length; person++) {
            Check.due("roads of " + person, x.roads(person), row[person]);
        }
        Check.due("one more", x.roads(row.length), -2);
    }

    /** Trees of these kinds (by number) and lasts, plain PERSONS of these feet, with pinch 1. */
    private static ShoeOrchard kinds(int[] kinds, int[] lasts, int... feet) {
        StringBuilder text = new StringBuilder();
        for (int i = 0; i < lasts.length; i++) {
            text.append("tree t").append((char) ('a' + i)).append(' ').append(OneAndOne.TREES[kinds[i]]).append(" last ").append(lasts[i])
                    .append(" age 0 ; ");
        }
        for (int i = 0; i < feet.length; i++) {
            text.append("person p").append((char) ('a' + i)).append(" plain feet ").append(feet[i]).append(" ; ");
        }
        return Check.of(text.toString());
    }

    private static void mostRoad() {
        Sentence.of("18", "ROADS: likewise, by which the road of these is the most, together");
        roads(kinds(row(), row()), 0);
        roads(kinds(row(0), row(5)), 0);
        roads(kinds(row(), row(), 5), 0, -1);
        roads(kinds(row(2, 3, 1, 0), row(5, 5, 5, 5), 5), 3, 3);
        roads(kinds(row(2, 3, 1, 0), row(5, 5, 5, 5), 5, 5), 5, 2, 3);
        roads(kinds(row(2, 3, 1, 0), row(5, 5, 5, 5), 5, 5, 5), 6, 1, 2, 3);
        roads(kinds(row(2, 3, 1, 0), row(5, 5, 5, 5), 5, 5, 5, 5), 6, 0, 1, 2, 3);
        roads(kinds(row(0, 0, 0, 0, 0, 0), row(5, 5, 5, 5, 5, 5), 5, 5, 5, 5, 5, 5), 18, 0, 1, 2, 3, 4, 5);
        roads(kinds(row(0, 1), row(5, 7), 6, 4), 5, 1, 0);
        ShoeOrchard x = kinds(row(2, 3, 1, 0), row(5, 5, 5, 5), 5, 5, 5);
        x.tryOn(1, 3);
        roads(x, 3, 1, -1, 2);
        x.share(1, 0);
        roads(x, 2, -1, -1, 2);
        x.tryOn(2, 0);
        roads(x, 0, -1, -1, -1);
    }

    private static void firstRowOfRoads() {
        Sentence.of("18", "the road of these is the most, together; of equal ones the first row: how much; which");
        roads(kinds(row(0, 0), row(5, 5), 5), 3, 0);
        roads(kinds(row(3, 1, 3), row(5, 5, 5), 5, 5), 3, 0, 1);
        roads(kinds(row(2, 0), row(4, 6), 5, 7), 3, 0, 1);
        roads(kinds(row(2, 2), row(4, 6), 5, 3), 0, 0, -1);
        roads(kinds(row(2, 2), row(4, 6), 5, 7), 0, 0, 1);
        roads(kinds(row(1), row(5), 5, 5), 2, 0, -1);
    }

    private static void order(ShoeOrchard x, int most, int... row) {
        Check.due("order", x.order(-1), most);
        for (int i = 0; i < row.length; i++) {
            Check.due("order " + i, x.order(i), row[i]);
        }
        Check.due("no more", x.order(row.length), -2);
    }

    private static void orderOfThoseNotShod() {
        Sentence.of("19", "ORDER of all PERSONS who are not SHOD");
        order(boots(row(), row(), ""), 0);
        order(boots(row(5), row(), ""), 0);
        order(boots(row(), row(5, 5), ""), 0, 0, 1);
        ShoeOrchard x = boots(row(5, 5, 5, 5, 5, 5), row(5, 5, 5, 5, 5, 5), "noon 6 ;");
        order(x, 6, 0, 1, 2, 3, 4, 5);
        x.tryOn(0, 3);
        order(x, 5, 1, 2, 3, 4, 5);
        x.share(0, 4);
        order(x, 4, 1, 2, 3, 5);
        x.tryOn(5, 5);
        x.tryOn(3, 0);
        x.tryOn(2, 1);
        order(x, 1, 1);
        x.tryOn(1, 2);
        order(x, 0);
    }

    private static void orderByNumbers() {
        Sentence.of("19", "each TRIES those TREES that BEAR and whose pair nobody has, by numbers, till one FITS");
        ShoeOrchard x = kinds(row(1, 1), row(4, 6), 5, 3);
        order(x, 2, 1, 0);
        ShoeOrchard y = kinds(row(1, 1), row(6, 4), 5, 3);
        order(y, 2, 0, 1);
        ShoeOrchard cold = Check.of("tree a slipper last 9 age 0 ; tree b boot last 5 age 0 ; person p plain feet 5 ; noon 1 ; frost 0 1 ;");
        order(cold, 0, 0);
        cold.year();
        order(cold, 1, 0);
        ShoeOrchard gone = boots(row(9, 5), row(5, 9), "noon 1 ;");
        order(gone, 2, 1, 0);
        gone.tryOn(1, 0);
        order(gone, 1, 0);
    }

    private static void orderTillNoon() {
        Sentence.of("19", "or noon comes (how often he tried counts)");
        for (int noon = 1; noon <= 6; noon++) {
            for (int tree = 0; tree < 6; tree++) {
                int[] lasts = {20, 20, 20, 20, 20, 20};
                lasts[tree] = 5;
                ShoeOrchard x = boots(lasts, row(5), "noon " + noon + " ;");
                for (int often = 0; often <= noon; often++) {
                    order(x, often + tree < noon ? 1 : 0, 0);
                    x.tryOn(0, tree == 0 ? 1 : 0);
                }
            }
        }
    }

    private static void firstRowOfOrder() {
        Sentence.of("19", "by which the most of these are SHOD at last; of equal ones the first row (of PERSONS): how many; who");
        order(boots(row(5), row(9, 5, 5), ""), 1, 0, 1, 2);
        order(boots(row(9, 5), row(5, 7, 9), "noon 1 ;"), 2, 1, 2, 0);
        order(boots(row(1, 2, 3), row(3, 2, 1), "noon 1 ;"), 3, 2, 1, 0);
        order(boots(row(1, 2, 3, 4, 5, 6), row(6, 5, 4, 3, 2, 1), "noon 1 ;"), 6, 5, 4, 3, 2, 1, 0);
        order(boots(row(1, 2, 3, 4, 5, 6), row(6, 5, 4, 3, 2, 1), "noon 6 ;"), 6, 0, 1, 2, 3, 4, 5);
        order(boots(row(1, 2, 3), row(3, 2, 1), "noon 2 ;"), 3, 1, 0, 2);
    }

    private static void mends(int[] lasts, int feet, int due) {
        Check.due("mends for " + feet, boots(lasts, row(feet), "").mends(0), due);
    }

    private static void mendsNoughtToTwo() {
        Sentence.of("20", "MENDS: the fewest GRAFTS and PRUNINGS (0 to 2)");
        mends(row(10), 11, -1);
        mends(row(10), 10, 0);
        mends(row(10), 9, 1);
        mends(row(10), 8, 2);
        mends(row(10), 7, -1);
        int[] due = {-1, 2, 1, 0, -1, 2, -1, 2, 1, -1, 2, 2, 1, 0, -1};
        for (int feet = 7; feet <= 21; feet++) {
            mends(row(10, 20), feet, due[feet - 7]);
        }
        mends(row(0), 0, 0);
        mends(row(0), 1, -1);
        mends(row(1), 0, 1);
        mends(row(2), 0, 2);
        mends(row(3), 0, -1);
        mends(row(30, 30, 30, 30, 30, 29), 28, 1);
        mends(row(30, 30, 30, 30, 30, 29), 27, 2);
        mends(row(30, 30, 30, 30, 30, 29), 26, -1);
        mends(row(), 5, -1);
        ShoeOrchard x = Check.of(OneAndOne.text("boot", 0, "plain", 11) + "pinch 0 ; bears 10 - size ;");
        Check.due("0 pruned stays 0", x.mends(0), -1);
        ShoeOrchard y = Check.of(OneAndOne.text("boot", 1, "plain", 10) + "pinch 0 ; bears 10 - size ;");
        Check.due("1 pruned is 0", y.mends(0), 1);
    }

    private static void mendsOfWhatBears() {
        Sentence.of("20", "so that some TREE that BEARS FITS a PERSON");
        ShoeOrchard x = Check.of("tree a boot last 10 age 0 ; tree b slipper last 20 age 0 ; person p plain feet 20 ; person q plain feet 15 ; "
                + "person r plain feet 19 ; pinch 0 ; frost 1 0 ;");
        Check.dueRow("b does not BEAR, but a can be grafted by it", row(x.mends(0), x.mends(1), x.mends(2)), -1, 1, -1);
        x.year();
        Check.dueRow("it does, of it is left 19", row(x.mends(0), x.mends(1), x.mends(2)), -1, -1, 0);
        ShoeOrchard none = Check.of(OneAndOne.text("slipper", 5, "plain", 5) + "frost 1 ;");
        Check.due("none BEARS", none.mends(0), -1);
    }

    private static void mendsNow() {
        Sentence.of("20", "GRAFTS and PRUNINGS (0 to 2), now");
        ShoeOrchard x = boots(row(10), row(7), "");
        Check.due("three", x.mends(0), -1);
        x.prune(0);
        Check.due("two", x.mends(0), 2);
        x.prune(0);
        Check.due("one", x.mends(0), 1);
        x.prune(0);
        Check.due("none", x.mends(0), 0);
        x.tryOn(0, 0);
        Check.due("who is SHOD, too", x.mends(0), 0);
        x.prune(0);
        Check.due("too small then", x.mends(0), -1);
        Check.dueRow("nothing is done by it", row(x.tree(0, 1), x.count(11)), 6, 5);
    }

    private static void whenNoughtToForty() {
        Sentence.of("21", "WHEN: in how many YEARS (0 to 40), nothing else being done, one does");
        for (int date : new int[] {0, 1, 2, 20, 38, 39, 40, 41, 42, 80}) {
            ShoeOrchard x = Check.of(OneAndOne.text("boot", 0, "plain", 1) + "pinch 0 ; bears date = " + date + " ;");
            Check.due("in " + date, x.when(0), date <= 40 ? date : -1);
            x.year();
            Check.due("a year later than " + date, x.when(0), date == 0 || date - 1 > 40 ? -1 : date - 1);
            Check.due("nothing is done by it", x.count(4), 1);
        }
        ShoeOrchard shod = Check.of(OneAndOne.text("boot", 5, "plain", 5));
        shod.tryOn(0, 0);
        Check.due("who is SHOD, too", shod.when(0), 0);
        ShoeOrchard cold = Check.of(OneAndOne.text("slipper", 30, "plain", 18) + "pinch 0 ; frost 1 1 1 1 1 1 1 1 1 1 1 0 ;");
        Check.due("19 in year 11, 8 in 23", cold.when(0), -1);
        ShoeOrchard mild = Check.of(OneAndOne.text("slipper", 30, "plain", 19) + "pinch 0 ; frost 1 1 1 1 1 1 1 1 1 1 1 0 ;");
        Check.due("19 in year 11", mild.when(0), 11);
    }

    private static void laterNoughtToForty() {
        Sentence.of("22", "LATER: the SIZE of a TREE in so many (0 to 40) YEARS");
        ShoeOrchard x = Check.of("tree a boot last 0 age 0 ; bears date - 5 ;");
        for (int years : new int[] {Integer.MIN_VALUE, -2, -1, 0, 1, 5, 6, 39, 40, 41, 42, Integer.MAX_VALUE}) {
            boolean asTold = years >= 0 && years <= 40;
            Check.due("in " + years, x.later(0, years), asTold ? Math.max(0, years - 5) : -1);
        }
        x.year();
        Check.due("from year 1", x.later(0, 40), 36);
        Check.due("nothing is done by it", x.count(4), 1);
    }

    private static void laterIfItBears() {
        Sentence.of("22", "in so many (0 to 40) YEARS, if it BEARS then");
        ShoeOrchard x = Check.of("tree a brogue last 3 age 0 ; tree b sandal last 3 age 0 ; frost 0 1 2 3 ;");
        int[] brogue = {3, 3, -1, -1, 1, 1, -1, -1, 0};
        int[] sandal = {3, 3, 3, -1, 2, 2, 2, -1, 1};
        for (int years = 0; years < 9; years++) {
            Check.due("brogue in " + years, x.later(0, years), brogue[years]);
            Check.due("sandal in " + years, x.later(1, years), sandal[years]);
        }
    }

    private static void lastsOfYearsToCome() {
        Sentence.of("21 22", "each TREE that does not BEAR has its last 1 less (0 at least)");
        for (int last = 0; last <= 4; last++) {
            int size = 10 - Math.max(0, last - 2);
            for (int feet = 7; feet <= 12; feet++) {
                ShoeOrchard x = Check.of(OneAndOne.text("slipper", last, "plain", feet) + "pinch 0 ; frost 1 1 0 3 3 3 3 3 3 3 3 3 ; bears 10 - size ;");
                Check.dueRow("last " + last + " in 1, 2, 14", row(x.later(0, 1), x.later(0, 2), x.later(0, 14)), -1, size, 10);
                Check.due("last " + last + " for " + feet, x.when(0), feet == size ? 2 : feet == 10 ? 14 : -1);
            }
        }
    }

    private static void pairs() {
        Sentence.of("26", "PAIRS: of PERSONS whom one TREE that BEARS FITS both");
        Check.due("nobody", boots(row(5), row(), "").pairs(), 0);
        Check.due("one alone", boots(row(5), row(5), "").pairs(), 0);
        Check.due("two", boots(row(5), row(5, 5), "").pairs(), 1);
        Check.due("three", boots(row(5), row(5, 5, 5), "").pairs(), 3);
        Check.due("six", boots(row(5), row(5, 5, 5, 5, 5, 5), "").pairs(), 15);
        Check.due("six by six, once each", boots(row(5, 5, 5, 5, 5, 5), row(5, 5, 5, 5, 5, 5), "").pairs(), 15);
        Check.due("each by another one", boots(row(5, 6), row(5, 6), "").pairs(), 0);
        Check.due("two and two", boots(row(5, 6), row(5, 6, 5, 6), "").pairs(), 2);
        Check.due("no TREE", boots(row(), row(5, 5), "").pairs(), 0);
        ShoeOrchard between = kinds(row(1, 1), row(5, 7), 4, 6, 8);
        Check.due("6 with each", between.pairs(), 2);
        between.tryOn(1, 0);
        Check.due("whoever has them", between.pairs(), 2);
    }

    private static void idle() {
        Sentence.of("27", "IDLE: TREES that BEAR and FIT nobody (bits)");
        Check.due("no TREES", boots(row(), row(5), "").idle(), 0);
        Check.due("no PERSONS", boots(row(1, 2, 3, 4, 5, 6), row(), "").idle(), 63);
        Check.due("each fits", boots(row(5, 5), row(5), "").idle(), 0);
        Check.due("the first", boots(row(6, 5), row(5), "").idle(), 1);
        Check.due("the sixth", boots(row(5, 5, 5, 5, 5, 6), row(5), "").idle(), 32);
        ShoeOrchard cold = Check.of(OneAndOne.text("slipper", 9, "plain", 5) + "frost 0 1 ;");
        Check.due("it BEARS", cold.idle(), 1);
        cold.year();
        Check.due("it does not", cold.idle(), 0);
    }

    private static void sole() {
        Sentence.of("28", "SOLE: PERSONS whom just one that BEARS FITS (bits)");
        Check.due("none, one, two", boots(row(5, 6, 6), row(4, 5, 6), "").sole(), 2);
        Check.due("no TREES", boots(row(), row(5), "").sole(), 0);
        Check.due("no PERSONS", boots(row(5), row(), "").sole(), 0);
        Check.due("all six by one", boots(row(5), row(5, 5, 5, 5, 5, 5), "").sole(), 63);
        Check.due("the sixth", boots(row(5, 6, 6), row(6, 6, 6, 6, 6, 5), "").sole(), 32);
        ShoeOrchard cold = Check.of(OneAndOne.text("slipper", 5, "plain", 5) + "tree b boot last 5 age 0 ; frost 0 1 ;");
        Check.due("two BEAR", cold.sole(), 0);
        cold.tryOn(0, 0);
        Check.due("whoever has them", cold.sole(), 0);
        cold.year();
        Check.due("one does", cold.sole(), 1);
    }

    private static void twins() {
        Sentence.of("29", "TWINS: pairs of TREES that BEAR the same SIZE");
        Check.due("none", boots(row(), row(), "").twins(), 0);
        Check.due("one alone", boots(row(5), row(), "").twins(), 0);
        Check.due("two", boots(row(5, 5), row(), "").twins(), 1);
        Check.due("1 apart", boots(row(5, 6), row(), "").twins(), 0);
        Check.due("three", boots(row(5, 5, 5), row(), "").twins(), 3);
        Check.due("two and two", boots(row(5, 6, 5, 6), row(), "").twins(), 2);
        Check.due("six", boots(row(5, 5, 5, 5, 5, 5), row(), "").twins(), 15);
        ShoeOrchard cold = Check.of("tree a slipper last 5 age 0 ; tree b slipper last 5 age 0 ; tree c boot last 5 age 0 ; frost 0 1 ;");
        Check.due("all BEAR", cold.twins(), 3);
        cold.year();
        Check.due("one does", cold.twins(), 0);
    }

    private static void best() {
        Sentence.of("30", "BEST: the TREE that BEARS and FITS the most PERSONS; of equal ones the first");
        Check.due("no TREES", boots(row(), row(5), "").best(), -1);
        Check.due("no PERSONS", boots(row(5, 6), row(), "").best(), 0);
        Check.due("none fits", boots(row(6, 7), row(5), "").best(), 0);
        Check.due("the second", boots(row(6, 5), row(5), "").best(), 1);
        Check.due("equal ones", boots(row(6, 5), row(5, 6), "").best(), 0);
        Check.due("one more", boots(row(6, 5), row(5, 6, 5), "").best(), 1);
        Check.due("the sixth", boots(row(1, 2, 3, 4, 6, 5), row(5, 5, 1), "").best(), 5);
        ShoeOrchard cold = Check.of(OneAndOne.text("slipper", 5, "plain", 5) + "tree b brogue last 9 age 0 ; frost 0 1 2 ;");
        Check.due("both BEAR", cold.best(), 0);
        cold.year();
        Check.due("b BEARS", cold.best(), 1);
        cold.year();
        Check.due("none BEARS", cold.best(), -1);
    }

    private static void lack() {
        Sentence.of("31", "LACK of a PERSON: by how much greater the pinch would have to be so that some TREE that BEARS FITS him (0: one does)");
        for (int pinch = 0; pinch <= 5; pinch++) {
            for (int apart = 0; apart <= 10; apart++) {
                ShoeOrchard x = Check.of("tree a boot last 15 age 0 ; tree b boot last 30 age 0 ; person p plain feet " + (15 - apart)
                        + " ; person q plain feet " + (30 - apart) + " ; pinch " + pinch + " ;");
                Check.due(apart + " below with pinch " + pinch, x.lack(0), Math.max(0, apart - pinch));
                Check.due("between with pinch " + pinch, x.lack(1), Math.max(0, Math.min(apart, 15 - apart) - pinch));
            }
        }
        ShoeOrchard far = Check.of(OneAndOne.text("boot", 30, "plain", 0) + "pinch 0 ; bears 40 ;");
        Check.due("the farthest", far.lack(0), 40);
        ShoeOrchard cold = Check.of(OneAndOne.text("slipper", 10, "plain", 10) + "tree b brogue last 14 age 0 ; frost 0 1 2 ;");
        Check.due("one does", cold.lack(0), 0);
        cold.year();
        Check.due("b alone", cold.lack(0), 3);
        cold.year();
        Check.due("none BEARS", cold.lack(0), -1);
    }

    private static void lackOfKinds() {
        Sentence.of("31", "by how much greater the pinch would have to be");
        for (int feet = 0; feet <= 30; feet++) {
            ShoeOrchard x = Check.of("tree a boot last 9 age 0 ; person p plain feet " + feet + " ; person q child feet " + feet
                    + " ; person r hopper feet " + feet + " ; person s old feet " + feet + " ; pinch 2 ;");
            int apart = Math.abs(feet - 9);
            int hop = Math.min(apart, Math.abs(feet - 18));
            Check.dueRow("feet " + feet, row(x.lack(0), x.lack(1), x.lack(2), x.lack(3)),
                    Math.max(0, apart - 2), Math.max(0, apart - 2), Math.max(0, hop - 2), Math.max(0, apart - 3));
        }
    }
}
