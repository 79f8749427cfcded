/** Boundaries of what a call may be given and may answer: the "others" and NONE of promises 5 to 36. */
final class CallEdges {
    /** Around each limit that a number of a TREE, a PERSON or a what has, and where bits and ints wrap. */
    private static final int[] NUMBERS = {Integer.MIN_VALUE, Integer.MIN_VALUE + 1, -65, -64, -33, -32, -31, -3, -2, -1, 0, 1, 2, 3, 4, 5, 6, 7,
        8, 11, 12, 13, 14, 31, 32, 33, 63, 64, 65, 255, 256, 65536, Integer.MAX_VALUE - 1, Integer.MAX_VALUE};

    private CallEdges() {
    }

    static void run() {
        treesOthers();
        treeThatDoesNotBear();
        whoHasItsPair();
        personsOthers();
        personsNone();
        fitsOthers();
        triesOthers();
        sharesOthers();
        graftsOthers();
        pruningsOthers();
        judgedOthers();
        judgedNone();
        fittedOthers();
        wearersOthers();
        shoesOthers();
        shoesNone();
        roadsOthers();
        orderOthers();
        mendsOthers();
        whenOthers();
        laterOthers();
        feelOthers();
        feetOthers();
        askNone();
        bestNone();
        lackOthers();
        chanceOthers();
        restsAreNumbered();
        agesOthers();
        marksOthers();
        countOthers();
        bitsOfSix();
        refusedChangesNothing();
        askingChangesNothing();
    }

    /** Boots of lasts 0, 1 .., old PERSONS of feet 0, 1 .., so that each is FITTED by its own number. */
    private static ShoeOrchard orchard(int trees, int persons) {
        return Check.of(LanguageEdges.trees(trees) + LanguageEdges.persons(persons));
    }

    private static boolean within(int number, int bound) {
        return number >= 0 && number < bound;
    }

    private static void treesOthers() {
        Sentence.of("5", "4: who has its pair, as bits; -2: others");
        for (int trees = 0; trees <= 6; trees++) {
            for (int tree : NUMBERS) {
                ShoeOrchard x = orchard(trees, 1);
                int[] due = {1, tree, 1, tree, 0};
                for (int what : NUMBERS) {
                    boolean there = within(tree, trees) && within(what, 5);
                    Check.due("tree " + tree + " of " + trees + ", " + what, x.tree(tree, what), there ? due[what] : -2);
                }
            }
        }
    }

    private static void treeThatDoesNotBear() {
        Sentence.of("5", "3: its SIZE (NONE: it does not BEAR)");
        for (int frost = 0; frost <= 3; frost++) {
            ShoeOrchard x = Check.of("tree a brogue last 4 age 0 ; tree b boot last 5 age 0 ; tree c slipper last 6 age 0 ; "
                    + "tree d sandal last 7 age 0 ; frost " + frost + " ;");
            for (int tree = 0; tree < 4; tree++) {
                Check.due("in frost " + frost, x.tree(tree, 3), frost <= OneAndOne.STANDS[tree] ? 4 + tree : -1);
                Check.due("its last", x.tree(tree, 1), 4 + tree);
            }
        }
        ShoeOrchard nought = Check.of("tree a boot last 0 age 0 ; bears 0 - 1 ;");
        Check.due("a SIZE of 0 is not NONE", nought.tree(0, 3), 0);
    }

    private static void whoHasItsPair() {
        Sentence.of("5", "4: who has its pair, as bits");
        for (int one = 0; one < 6; one++) {
            for (int other = 0; other < 6; other++) {
                ShoeOrchard x = Check.of(LanguageEdges.trees(6) + LanguageEdges.persons(6).replaceAll("feet \\d", "feet 5"));
                Check.due("nobody", x.tree(5, 4), 0);
                x.tryOn(one, 5);
                Check.due("one", x.tree(5, 4), 1 << one);
                Check.due("share", x.share(one, other), one != other);
                Check.due("both", x.tree(5, 4), 1 << one | 1 << other);
                Check.due("another one's", x.tree(4, 4), 0);
                x.year();
                Check.due("nobody any more", x.tree(5, 4), 0);
            }
        }
    }

    private static void personsOthers() {
        Sentence.of("6", "5: with whom he shares (NONE: nobody); -2: others");
        for (int persons = 0; persons <= 6; persons++) {
            for (int person : NUMBERS) {
                ShoeOrchard x = orchard(1, persons);
                int[] due = {3, person, -1, 0, 0, -1};
                for (int what : NUMBERS) {
                    boolean there = within(person, persons) && within(what, 6);
                    Check.due("person " + person + " of " + persons + ", " + what, x.person(person, what), there ? due[what] : -2);
                }
            }
        }
    }

    private static void personsNone() {
        Sentence.of("6", "2: the TREE by which he is SHOD (NONE: he is not)");
        ShoeOrchard x = orchard(6, 6);
        for (int person = 0; person < 6; person++) {
            Check.dueRow("not SHOD, nobody", new int[] {x.person(person, 2), x.person(person, 5)}, -1, -1);
            x.tryOn(person, person);
            Check.dueRow("SHOD, nobody", new int[] {x.person(person, 2), x.person(person, 5)}, person, -1);
        }
        x.undo();
        Check.due("sharing with the last one", x.share(4, 5), true);
        Check.dueRow("both", new int[] {x.person(4, 2), x.person(4, 5), x.person(5, 2), x.person(5, 5)}, 4, 5, 4, 4);
        x.year();
        Check.dueRow("neither", new int[] {x.person(4, 2), x.person(4, 5), x.person(5, 2), x.person(5, 5)}, -1, -1, -1, -1);
    }

    private static void fitsOthers() {
        Sentence.of("7", "Whether a TREE that BEARS FITS a PERSON");
        for (int there = 0; there <= 6; there++) {
            for (int number : NUMBERS) {
                ShoeOrchard x = orchard(there, 6 - there);
                for (int tree : NUMBERS) {
                    // of an old one no more than pinch and 1, which is 2 apart
                    boolean due = within(number, 6 - there) && within(tree, there) && Math.abs(number - tree) <= 2;
                    Check.due("person " + number + " and tree " + tree, x.fits(number, tree), due);
                }
            }
        }
    }

    private static void triesOthers() {
        Sentence.of("8", "TRY: 1 it FITS, 0 it does not; NONE: others, it can't be");
        for (int there = 0; there <= 6; there++) {
            for (int number : NUMBERS) {
                ShoeOrchard x = orchard(6, there);
                boolean person = within(number, there);
                Check.due("person " + number + " of " + there, x.tryOn(number, 0), !person ? -1 : number <= 2 ? 1 : 0);
                Check.due("done", x.count(11), person ? 1 : 0);
                ShoeOrchard y = orchard(there, 6);
                boolean tree = within(number, there);
                Check.due("tree " + number + " of " + there, y.tryOn(0, number), !tree ? -1 : number <= 2 ? 1 : 0);
                Check.due("done", y.count(11), tree ? 1 : 0);
                Check.due("tried", y.person(0, 3), tree ? 1 : 0);
            }
        }
    }

    private static void sharesOthers() {
        Sentence.of("9", "SHARE: true; false: others, the same, it can't be");
        for (int there = 2; there <= 6; there++) {
            for (int number : NUMBERS) {
                ShoeOrchard x = Check.of(LanguageEdges.trees(2) + LanguageEdges.persons(there).replaceAll("feet \\d", "feet 0"));
                x.tryOn(1, 0);
                boolean can = within(number, there) && number != 1;
                Check.due("1 with " + number + " of " + there, x.share(1, number), can);
                Check.due("done", x.count(11), can ? 2 : 1);
                ShoeOrchard y = Check.of(LanguageEdges.trees(2) + LanguageEdges.persons(there).replaceAll("feet \\d", "feet 0"));
                y.tryOn(number, 0);
                Check.due(number + " of " + there + " with 1", y.share(number, 1), can);
                Check.due("done", y.count(11), can ? 2 : number == 1 ? 1 : 0);
            }
        }
        for (int number : NUMBERS) {
            Check.due("nobody is there", new ShoeOrchard().share(number, number), false);
            Check.due("one alone", orchard(1, 1).share(0, number), false);
        }
    }

    private static void graftsOthers() {
        Sentence.of("10", "GRAFT: the last then; NONE: others, the same");
        for (int there = 0; there <= 6; there++) {
            for (int number : NUMBERS) {
                for (int with = 0; with < 2; with++) {
                    boolean can = within(number, there) && with < there && number != with;
                    ShoeOrchard x = orchard(there, 0);
                    Check.due(number + " by " + with + " of " + there, x.graft(number, with), can ? (number + with) / 2 : -1);
                    Check.due("done", x.count(11), can ? 1 : 0);
                    ShoeOrchard y = orchard(there, 0);
                    Check.due(with + " by " + number + " of " + there, y.graft(with, number), can ? (number + with) / 2 : -1);
                    Check.due("done", y.count(11), can ? 1 : 0);
                }
            }
        }
    }

    private static void pruningsOthers() {
        Sentence.of("11", "PRUNE: the last then; NONE: others");
        for (int there = 0; there <= 6; there++) {
            for (int number : NUMBERS) {
                boolean can = within(number, there);
                ShoeOrchard x = orchard(there, 1);
                Check.due(number + " of " + there, x.prune(number), can ? Math.max(0, number - 1) : -1);
                Check.due("done", x.count(11), can ? 1 : 0);
            }
        }
    }

    private static void judgedOthers() {
        Sentence.of("14", "2: road; -2: others");
        for (int what : NUMBERS) {
            boolean there = within(what, 3);
            Check.due("nothing told, " + what, new ShoeOrchard().judged(what), !there ? -2 : what == 2 ? 0 : -1);
            ShoeOrchard x = orchard(6, 6);
            Check.tellMorning(x, "share pa pb ; try pf ta ; try pa ta ;");
            int[] due = {0, 1, 2};
            Check.due("a MORNING, " + what, x.judged(what), there ? due[what] : -2);
        }
    }

    private static void judgedNone() {
        Sentence.of("14", "what 0, 1: lines (NONE: none)");
        ShoeOrchard x = orchard(6, 6);
        String[] lines = {"", "try pa ta ;", "try pf ta ;", "share pa pb ;", "share pa pb ; try pf ta ;"};
        int[][] due = {{-1, -1}, {-1, -1}, {-1, 0}, {0, -1}, {0, 1}};
        for (int i = 0; i < lines.length; i++) {
            Check.due("morning " + lines[i], Check.tellMorning(x, lines[i]), 0);
            Check.dueRow(lines[i], new int[] {x.judged(0), x.judged(1)}, due[i]);
        }
    }

    private static void fittedOthers() {
        Sentence.of("15", "FITTED, as bits; NONE: others");
        for (int there = 0; there <= 6; there++) {
            ShoeOrchard x = orchard(1, there);
            for (int number : NUMBERS) {
                Check.due(number + " of " + there, x.fitted(number), !within(number, there) ? -1 : number <= 2 ? 1 : 0);
            }
        }
    }

    private static void wearersOthers() {
        Sentence.of("16", "WEARERS, as bits; NONE: others, it does not BEAR");
        for (int there = 0; there <= 6; there++) {
            ShoeOrchard x = orchard(there, 1);
            ShoeOrchard cold = Check.of(LanguageEdges.trees(there).replace("boot", "sandal") + "person p old feet 0 ; frost 3 2 ;");
            ShoeOrchard mild = Check.of(LanguageEdges.trees(there).replace("boot", "sandal") + "person p old feet 0 ; frost 2 ;");
            for (int number : NUMBERS) {
                int due = !within(number, there) ? -1 : number <= 2 ? 1 : 0;
                Check.due(number + " of " + there, x.wearers(number), due);
                Check.due("it does not BEAR", cold.wearers(number), -1);
                Check.due("it BEARS just", mild.wearers(number), due);
            }
        }
    }

    private static void shoesOthers() {
        Sentence.of("17", "SHOES, person NONE: how many; else which (NONE: none); -2: others");
        for (int there = 0; there <= 6; there++) {
            ShoeOrchard x = Check.of("pinch 0 ; " + LanguageEdges.trees(6) + LanguageEdges.persons(there).replace("old", "plain"));
            for (int number : NUMBERS) {
                Check.due(number + " of " + there, x.shoes(number), number == -1 ? there : within(number, there) ? number : -2);
            }
        }
    }

    private static void shoesNone() {
        Sentence.of("17 18", "else which (NONE: none)");
        for (int trees = 0; trees <= 6; trees++) {
            ShoeOrchard x = Check.of(LanguageEdges.trees(trees).replaceAll("last \\d", "last 5")
                    + LanguageEdges.persons(6).replaceAll("feet \\d", "feet 5"));
            for (int person = 0; person < 6; person++) {
                Check.due("shoes of " + person + " by " + trees, x.shoes(person), person < trees ? person : -1);
                Check.due("roads of " + person + " by " + trees, x.roads(person), person < trees ? person : -1);
            }
            Check.dueRow("how many, how much", new int[] {x.shoes(-1), x.roads(-1)}, trees, 2 * trees);
        }
    }

    private static void roadsOthers() {
        Sentence.of("18", "ROADS, likewise (person NONE: how much)");
        for (int there = 0; there <= 6; there++) {
            ShoeOrchard x = Check.of("pinch 0 ; " + LanguageEdges.trees(6) + LanguageEdges.persons(there).replace("old", "plain"));
            for (int number : NUMBERS) {
                Check.due(number + " of " + there, x.roads(number), number == -1 ? 2 * there : within(number, there) ? number : -2);
            }
        }
    }

    private static void orderOthers() {
        Sentence.of("19", "ORDER, what NONE: how many; i: the i-th PERSON; -2: others, no i-th one");
        for (int there = 0; there <= 6; there++) {
            ShoeOrchard x = Check.of("pinch 0 ; noon 6 ; " + LanguageEdges.trees(6) + LanguageEdges.persons(there).replace("old", "plain"));
            for (int shod = 0; shod <= there; shod++) {
                for (int what : NUMBERS) {
                    int due = what == -1 ? there - shod : within(what, there - shod) ? shod + what : -2;
                    Check.due(what + " of " + there + ", " + shod + " being SHOD", x.order(what), due);
                }
                x.tryOn(shod, shod);
            }
        }
    }

    private static void mendsOthers() {
        Sentence.of("20", "MENDS; NONE: others, not by 2");
        for (int there = 0; there <= 6; there++) {
            ShoeOrchard x = Check.of("pinch 0 ; tree a boot last 5 age 0 ; " + LanguageEdges.persons(there).replace("old", "plain"));
            for (int number : NUMBERS) {
                int due = !within(number, there) || number < 3 ? -1 : 5 - number;
                Check.due(number + " of " + there, x.mends(number), due);
            }
        }
    }

    private static void whenOthers() {
        Sentence.of("21", "WHEN; NONE: others, not by 40");
        for (int there = 0; there <= 6; there++) {
            ShoeOrchard x = Check.of("pinch 0 ; tree a boot last 5 age 0 ; bears date - 38 ; " + LanguageEdges.persons(there).replace("old", "plain"));
            for (int number : NUMBERS) {
                // the SIZE is 0 at first, 1 in year 39, 2 in year 40, 3 in year 41
                int due = !within(number, there) || number > 2 ? -1 : number == 0 ? 0 : 38 + number;
                Check.due(number + " of " + there, x.when(number), due);
            }
        }
    }

    private static void laterOthers() {
        Sentence.of("22", "LATER; NONE: others, it does not BEAR then");
        for (int there = 0; there <= 6; there++) {
            ShoeOrchard x = orchard(there, 1);
            for (int number : NUMBERS) {
                Check.due(number + " of " + there, x.later(number, 0), within(number, there) ? number : -1);
                Check.due(number + " of " + there + " in 40", x.later(number, 40), within(number, there) ? number : -1);
                Check.due(number + " of " + there + " in 41", x.later(number, 41), -1);
                Check.due(number + " of " + there + " in -1", x.later(number, -1), -1);
                Check.due("0 of " + there + " in " + number, x.later(0, number), there > 0 && within(number, 41) ? 0 : -1);
            }
        }
    }

    private static void feelOthers() {
        Sentence.of("23", "FELT: true; false: others, 8 there are");
        for (int there = 0; there <= 6; there++) {
            for (int number : NUMBERS) {
                ShoeOrchard x = orchard(there, 6);
                boolean can = within(number, there);
                for (int often = 0; often < 10; often++) {
                    Check.due("FELT", x.count(10), can ? Math.min(8, often) : 0);
                    Check.due(number + " of " + there + " behind " + often, x.feel(number, often % 2 == 0), can && often < 8);
                }
            }
        }
    }

    private static void feetOthers() {
        Sentence.of("24", "FEET, what 0: how many, 1: the least, 2: the greatest; NONE: others, none (but 0)");
        ShoeOrchard x = orchard(3, 0);
        ShoeOrchard none = orchard(3, 0);
        x.feel(2, true);
        none.feel(2, true);
        none.feel(2, false);
        for (int what : NUMBERS) {
            int[] due = {3, 1, 3};
            Check.due("what " + what, x.feet(what), within(what, 3) ? due[what] : -1);
            Check.due("none, what " + what, none.feet(what), what == 0 ? 0 : -1);
        }
    }

    private static void askNone() {
        Sentence.of("25", "ASK; NONE: none parts them");
        ShoeOrchard x = Check.of("pinch 0 ; tree a boot last 0 age 0 ; tree b boot last 1 age 0 ;");
        Check.due("one of 41 by a", x.ask(), 0);
        x.feel(0, false);
        Check.due("one of 40 by b", x.ask(), 1);
        x.feel(1, false);
        Check.due("none of 39", x.ask(), -1);
        ShoeOrchard y = Check.of("pinch 1 ; tree a boot last 5 age 0 ; tree b boot last 7 age 0 ; tree c boot last 8 age 0 ;");
        y.feel(0, true);
        Check.due("one of 4, 5, 6 by b", y.ask(), 1);
        y.feel(1, true);
        Check.due("one is left", y.ask(), -1);
        y.feel(2, true);
        Check.due("none is left", y.ask(), -1);
    }

    private static void bestNone() {
        Sentence.of("30", "BEST; NONE: none BEARS");
        for (int there = 0; there <= 6; there++) {
            Check.due(there + " BEAR", orchard(there, 0).best(), there > 0 ? 0 : -1);
            String brogues = LanguageEdges.trees(there).replace("boot", "brogue");
            Check.due("in frost 1", Check.of(brogues + "frost 1 ;").best(), there > 0 ? 0 : -1);
            Check.due("in frost 2", Check.of(brogues + "frost 2 ;").best(), -1);
        }
    }

    private static void lackOthers() {
        Sentence.of("31", "LACK; NONE: others, none BEARS");
        for (int there = 0; there <= 6; there++) {
            ShoeOrchard x = orchard(1, there);
            ShoeOrchard none = orchard(0, there);
            ShoeOrchard cold = Check.of(LanguageEdges.trees(1).replace("boot", "slipper") + LanguageEdges.persons(there) + "frost 1 ;");
            for (int number : NUMBERS) {
                Check.due(number + " of " + there, x.lack(number), within(number, there) ? Math.max(0, number - 2) : -1);
                Check.due("no TREE", none.lack(number), -1);
                Check.due("none BEARS", cold.lack(number), -1);
            }
        }
    }

    private static void chanceOthers() {
        Sentence.of("32", "CHANCE, by odds (0 to 10); NONE: others");
        for (int there = 0; there <= 6; there++) {
            ShoeOrchard x = orchard(1, there);
            for (int number : NUMBERS) {
                Check.due("person " + number + " of " + there, x.chance(number, 1, 5),
                        within(number, there) ? number <= 2 ? 1000000 : 0 : -1);
                Check.due("years " + number, x.chance(0, number, 5), there > 0 && number >= 1 && number <= 6 ? 1000000 : -1);
                Check.due("odds " + number, x.chance(0, 1, number), there > 0 && number >= 0 && number <= 10 ? 1000000 : -1);
            }
            Check.dueRow("9, 10, 11", new int[] {x.chance(0, 1, 9), x.chance(0, 1, 10), x.chance(0, 1, 11)},
                    there > 0 ? 1000000 : -1, there > 0 ? 1000000 : -1, -1);
        }
    }

    private static void restsAreNumbered() {
        Sentence.of("33", "i: the i-th as 2 * the first one's choice + the other one's (1 tries; the least first)");
        ShoeOrchard x = new ShoeOrchard();
        for (int what : NUMBERS) {
            Check.due("all four, " + what, Check.rests(x, 3, 0, 3, what), what == -1 ? 4 : within(what, 4) ? what : -99);
            int[] some = {0, 1, 2};
            Check.due("but both trying, " + what, Check.rests(x, 2, 0, 3, what), what == -1 ? 3 : within(what, 3) ? some[what] : -99);
            int[] same = {0, 3};
            Check.due("the same, " + what, Check.rests(x, 3, 1, 2, what), what == -1 ? 2 : within(what, 2) ? same[what] : -99);
            Check.due("keeping alone, " + what, Check.rests(x, 2, 1, 3, what), what == -1 ? 1 : what == 0 ? 0 : -99);
        }
    }

    private static void agesOthers() {
        Sentence.of("34", "what 0: how often, 1: the year, 2: road; NONE: others");
        for (int number : NUMBERS) {
            ShoeOrchard x = orchard(1, 1);
            Check.due("what " + number, x.ages(1, 1, number), within(number, 3) ? number == 0 ? 1 : number == 1 ? 0 : 2 : -1);
            Check.due("seed " + number, x.ages(number, 1, 0), within(number, 10000) ? 1 : -1);
            Check.due("steps " + number, x.ages(1, number, 0) >= 1, number >= 1 && number <= 99);
            Check.due("steps " + number, x.ages(1, number, 0) == -1, number < 1 || number > 99);
            ShoeOrchard empty = new ShoeOrchard();
            Check.due("nothing there, what " + number, empty.ages(1, 1, number), within(number, 3) ? 0 : -1);
            Check.due("nothing there, seed " + number, empty.ages(number, 1, 0), within(number, 10000) ? 0 : -1);
            Check.due("nothing there, steps " + number, empty.ages(1, number, 0), number >= 1 && number <= 99 ? 0 : -1);
        }
    }

    private static void marksOthers() {
        Sentence.of("35", "A MARK is laid (back: gone back to): true; false: none such, nothing is on it (back)");
        for (int number : NUMBERS) {
            boolean there = within(number, 4);
            ShoeOrchard x = new ShoeOrchard();
            Check.due("nothing is on " + number, x.mark(number, true), false);
            Check.due("laid " + number, x.mark(number, false), there);
            Check.due("laid again " + number, x.mark(number, false), there);
            for (int mark = 0; mark < 4; mark++) {
                Check.due("on " + mark + " behind " + number, x.mark(mark, true), mark == number);
            }
            Check.due("gone back to twice", x.mark(number, true), there);
            Check.due("an ORCHARD is told", x.orchard(), 0);
            Check.due("nothing is on it then", x.mark(number, true), false);
        }
    }

    private static void countOthers() {
        Sentence.of("36", "12: signs on the TAPE. NONE for another what");
        for (int what : NUMBERS) {
            int[] first = {0, 0, 1, 3, 0, 0, 0, 0, 0, 0, 0, 0, 0};
            Check.due("at first, " + what, new ShoeOrchard().count(what), within(what, 13) ? first[what] : -1);
            ShoeOrchard x = FaultEdges.used();
            Check.feed(x, "noon");
            int[] then = {2, 2, 2, 2, 1, 2, 1, 3, 6, 3, 1, 4, 4};
            Check.due("used, " + what, x.count(what), within(what, 13) ? then[what] : -1);
        }
    }

    private static void bitsOfSix() {
        Sentence.of("36", "6: TREES that BEAR, as bits, 7: who is SHOD, as bits, 8: road of all");
        for (int there = 0; there <= 6; there++) {
            ShoeOrchard x = Check.of("pinch 0 ; " + LanguageEdges.trees(there) + LanguageEdges.persons(there).replace("old", "plain"));
            Check.due(there + " BEAR", x.count(6), (1 << there) - 1);
            for (int shod = 0; shod < there; shod++) {
                Check.dueRow(shod + " are SHOD", new int[] {x.count(7), x.count(8)}, (1 << shod) - 1, 2 * shod);
                x.tryOn(shod, shod);
            }
            Check.dueRow("all are SHOD", new int[] {x.count(7), x.count(8)}, (1 << there) - 1, 2 * there);
        }
        for (int frost = 0; frost <= 3; frost++) {
            ShoeOrchard x = Check.of("tree a brogue last 4 age 0 ; tree b boot last 5 age 0 ; tree c slipper last 6 age 0 ; "
                    + "tree d sandal last 7 age 0 ; tree e slipper last 7 age 0 ; tree f boot last 7 age 0 ; frost " + frost + " ;");
            Check.due("in frost " + frost, x.count(6), new int[] {63, 43, 42, 34}[frost]);
        }
    }

    /** All that can be seen of an object. */
    private static String seen(ShoeOrchard x) {
        StringBuilder text = new StringBuilder();
        for (int what = 0; what <= 12; what++) {
            text.append(x.count(what)).append(' ');
        }
        for (int number = 0; number < 3; number++) {
            for (int what = 0; what <= 5; what++) {
                text.append(x.tree(number, what)).append(' ').append(x.person(number, what)).append(' ');
            }
        }
        text.append(x.judged(0)).append(' ').append(x.judged(1)).append(' ').append(x.judged(2)).append(' ');
        return text.append(x.feet(0)).append(' ').append(x.feet(1)).append(' ').append(x.feet(2)).toString();
    }

    private static void refusedChangesNothing() {
        Sentence.of("8-11 13 23 35", "false: others, the same, it can't be");
        for (int number : NUMBERS) {
            if (!within(number, 2)) {
                ShoeOrchard x = FaultEdges.used();
                Check.feed(x, "noon");
                String before = seen(x);
                x.tryOn(number, 0);
                x.tryOn(0, number);
                x.tryOn(number, number);
                x.share(number, 0);
                x.share(0, number);
                x.share(number, number);
                x.graft(number, 0);
                x.graft(0, number);
                x.graft(number, number);
                x.prune(number);
                x.feel(number, true);
                if (!within(number, 4)) {
                    x.mark(number, false);
                    x.mark(number, true);
                }
                x.mark(1, true);
                x.mark(2, true);
                Check.due("all is as before " + number, seen(x).equals(before), true);
            }
        }
        ShoeOrchard y = FaultEdges.used();
        String before = seen(y);
        y.tryOn(0, 0);
        y.tryOn(1, 1);
        y.share(0, 1);
        y.share(1, 1);
        y.graft(1, 1);
        Check.due("all is as before what can't be", seen(y).equals(before), true);
        ShoeOrchard z = new ShoeOrchard();
        before = seen(z);
        z.undo();
        Check.due("all is as before", seen(z).equals(before), true);
    }

    private static void askingChangesNothing() {
        Sentence.of("5-7 14-22 24-34 36", "Nothing is promised beyond the answers and state changes described above");
        for (int number : NUMBERS) {
            ShoeOrchard x = FaultEdges.used();
            Check.feed(x, "noon");
            String before = seen(x);
            for (int small = -1; small <= 1; small++) {
                x.fits(number, small);
                x.fits(small, number);
                x.later(small, number);
                x.later(number, small + 1);
                x.chance(small, number, 5);
                x.chance(number, small + 1, 5);
                x.ages(number, 99, small);
                x.ages(7, number, small);
                Check.rests(x, number, small, 1, -1);
                Check.rests(x, 1, small, 1, number);
            }
            x.fitted(number);
            x.wearers(number);
            x.shoes(number);
            x.roads(number);
            x.order(number);
            x.mends(number);
            x.when(number);
            x.lack(number);
            int sum = x.ask() + x.pairs() + x.idle() + x.sole() + x.twins() + x.best();
            Check.due("they answer the same again", x.ask() + x.pairs() + x.idle() + x.sole() + x.twins() + x.best(), sum);
            Check.due("all is as before " + number, seen(x).equals(before), true);
        }
    }
}
