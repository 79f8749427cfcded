/** Boundaries of TRY, SHARE, GRAFT, PRUNE, YEAR, UNDO and MARKS ("Terms", promises 6, 8 to 13, 35, 36). */
final class DoingEdges {
    private DoingEdges() {
    }

    static void run() {
        whoIsShod();
        lessOftenThanNoon();
        inThatYear();
        whosePairNobodyHas();
        triedOnceMore();
        roadsByKinds();
        whoMaySharePairs();
        pairsThatFitToo();
        sharedRoad();
        halfCut();
        graftedByItself();
        oneLess();
        lastsOfYears();
        agesOfYears();
        feetOfYears();
        newMornings();
        nextYear();
        lastSixteen();
        oneByOne();
        refusedIsNothing();
        undoneAndDone();
        marksNoughtToThree();
        marksHold();
        marksAndUndo();
    }

    private static void whoIsShod() {
        Sentence.of("8", "TRY: a PERSON who is not SHOD");
        ShoeOrchard x = Check.of("tree a boot last 5 age 0 ; tree b boot last 5 age 0 ; tree c boot last 15 age 0 ; "
                + "person p plain feet 5 ; person q plain feet 5 ; noon 6 ;");
        Check.due("not SHOD", x.tryOn(0, 2), 0);
        Check.due("not SHOD still", x.tryOn(0, 0), 1);
        Check.due("SHOD", x.tryOn(0, 1), -1);
        Check.due("SHOD, what would pinch", x.tryOn(0, 2), -1);
        Check.due("SHOD, his own", x.tryOn(0, 0), -1);
        x.share(0, 1);
        Check.due("SHOD by sharing", x.tryOn(1, 1), -1);
        Check.due("how often", x.person(0, 3) * 10 + x.person(1, 3), 20);
        x.year();
        Check.due("not SHOD any more", x.tryOn(0, 1), 1);
    }

    private static void lessOftenThanNoon() {
        Sentence.of("6 8 19", "has tried less often than noon");
        for (int noon = 1; noon <= 6; noon++) {
            ShoeOrchard x = Check.of("tree a boot last 5 age 0 ; tree b boot last 15 age 0 ; person p plain feet 15 ; noon " + noon + " ;");
            for (int often = 0; often < noon; often++) {
                Check.due("tried", x.person(0, 3), often);
                Check.due("order after " + often + " by noon " + noon, x.order(-1), often + 2 <= noon ? 1 : 0);
                Check.due("try " + often + " by noon " + noon, x.tryOn(0, 0), 0);
            }
            Check.due("noon has come", x.tryOn(0, 0), -1);
            Check.due("noon has come for what FITS, too", x.tryOn(0, 1), -1);
            Check.due("tried", x.person(0, 3), noon);
            Check.due("order", x.order(-1), 0);
            x.undo();
            Check.due("one less", x.tryOn(0, 1), 1);
            Check.due("tried", x.person(0, 3), noon);
        }
    }

    private static void inThatYear() {
        Sentence.of("8 12", "has tried less often than noon in that year");
        ShoeOrchard x = Check.of("tree a boot last 5 age 0 ; person p plain feet 15 ; noon 2 ;");
        for (int year = 0; year < 3; year++) {
            Check.due("first", x.tryOn(0, 0), 0);
            Check.due("second", x.tryOn(0, 0), 0);
            Check.due("third", x.tryOn(0, 0), -1);
            x.year();
            Check.due("tried", x.person(0, 3), 0);
        }
    }

    private static void whosePairNobodyHas() {
        Sentence.of("8", "a TREE that BEARS and whose pair nobody has");
        ShoeOrchard x = Check.of("tree a boot last 5 age 0 ; tree b slipper last 5 age 0 ; person p plain feet 5 ; "
                + "person q plain feet 5 ; person r plain feet 9 ; frost 0 1 ;");
        Check.due("a pinches r", x.tryOn(2, 0), 0);
        Check.due("nobody has it then", x.tryOn(0, 0), 1);
        Check.due("p has it", x.tryOn(1, 0), -1);
        Check.due("p has it, though it would pinch", x.tryOn(2, 0), -1);
        Check.due("another one", x.tryOn(1, 1), 1);
        Check.due("no tries", x.person(1, 3) * 10 + x.person(2, 3), 11);
        x.undo();
        x.undo();
        Check.due("given back", x.tryOn(1, 0), 1);
        x.year();
        Check.due("a new pair", x.tryOn(0, 0), 1);
        Check.due("it does not BEAR", x.tryOn(1, 1), -1);
        Check.due("no try", x.person(1, 3), 0);
    }

    private static void triedOnceMore() {
        Sentence.of("6 8", "he has tried once more; if it FITS he is SHOD by it");
        ShoeOrchard x = Check.of("tree a boot last 5 age 0 ; tree b boot last 7 age 0 ; tree c boot last 6 age 0 ; person p plain feet 5 ;");
        Check.due("2 apart", x.tryOn(0, 1), 0);
        Check.dueRow("pinched", new int[] {x.person(0, 2), x.person(0, 3), x.person(0, 4), x.tree(1, 4), x.count(7)}, -1, 1, 0, 0, 0);
        Check.due("1 apart", x.tryOn(0, 2), 1);
        Check.dueRow("SHOD", new int[] {x.person(0, 2), x.person(0, 3), x.person(0, 4), x.tree(2, 4), x.count(7)}, 2, 2, 2, 1, 1);
    }

    private static void roadsByKinds() {
        Sentence.of("6 8 14 18 34 36", "has gone so much road more: by a brogue 3, a boot 2, a sandal 1, a slipper 0");
        for (int kind = 0; kind < 4; kind++) {
            ShoeOrchard x = Check.of(OneAndOne.text(OneAndOne.TREES[kind], 5, "plain", 5));
            int road = OneAndOne.ROADS[kind];
            Check.due("to go by a " + OneAndOne.TREES[kind], x.roads(-1), road);
            Check.tellMorning(x, "try p a ; year ; try p a ;");
            Check.due("judged", x.judged(2), 2 * road);
            for (int year = 0; year < 3; year++) {
                Check.due("road before", x.person(0, 4), year * road);
                x.tryOn(0, 0);
                Check.due("road behind", x.person(0, 4), (year + 1) * road);
                Check.due("road of all", x.count(8), (year + 1) * road);
                x.year();
            }
            Check.due("by ages", x.ages(1, 1, 2), road);
        }
    }

    private static void whoMaySharePairs() {
        Sentence.of("9", "SHARE: one who is SHOD, and shares with nobody, with another one who is not");
        ShoeOrchard x = Check.of("tree a boot last 5 age 0 ; tree b boot last 5 age 0 ; person p plain feet 5 ; person q plain feet 5 ; "
                + "person r plain feet 5 ; person s plain feet 5 ;");
        Check.due("neither is SHOD", x.share(0, 1), false);
        x.tryOn(0, 0);
        Check.due("the first is not SHOD", x.share(1, 0), false);
        Check.due("himself", x.share(0, 0), false);
        x.tryOn(1, 1);
        Check.due("both are SHOD", x.share(0, 1), false);
        Check.due("the other one is not", x.share(0, 2), true);
        Check.due("he shares", x.share(0, 3), false);
        Check.due("the other one shares", x.share(2, 3), false);
        Check.due("with one who shares", x.share(1, 2), false);
        Check.due("who shares with nobody", x.share(1, 3), true);
        Check.dueRow("who with whom", new int[] {x.person(0, 5), x.person(1, 5), x.person(2, 5), x.person(3, 5)}, 2, 3, 0, 1);
        Check.due("what can be undone", x.count(11), 4);
        x.year();
        Check.due("nobody is SHOD", x.share(0, 2), false);
    }

    private static void pairsThatFitToo() {
        Sentence.of("9", "if that pair FITS this one, too");
        for (int feet = 0; feet <= 30; feet++) {
            ShoeOrchard x = Check.of("tree a boot last 10 age 0 ; person p plain feet 10 ; person q plain feet " + feet + " ; person r old feet "
                    + feet + " ; person s hopper feet " + feet + " ; person t child feet " + feet + " ; pinch 2 ;");
            x.tryOn(0, 0);
            int apart = Math.abs(feet - 10);
            boolean[] due = {apart <= 2, apart <= 3, apart <= 2 || Math.abs(feet - 20) <= 2, apart <= 2};
            for (int other = 0; other < 4; other++) {
                Check.due("feet " + feet + " of " + other, x.share(0, other + 1), due[other]);
                if (due[other]) {
                    x.undo();
                }
            }
        }
        ShoeOrchard x = Check.of("tree a boot last 10 age 0 ; person p plain feet 10 ; person q plain feet 9 ; noon 1 ; pinch 0 ;");
        x.tryOn(0, 0);
        Check.due("not yet", x.share(0, 1), false);
        x.prune(0);
        Check.due("by its SIZE now, though it is not p's", x.share(0, 1), true);
    }

    private static void sharedRoad() {
        Sentence.of("6 9 36", "both are SHOD by it then, and share; this one has gone as much road more");
        for (int kind = 0; kind < 4; kind++) {
            int road = OneAndOne.ROADS[kind];
            ShoeOrchard x = Check.of(OneAndOne.text(OneAndOne.TREES[kind], 5, "plain", 5) + "person q plain feet 5 ; noon 1 ;");
            x.tryOn(0, 0);
            Check.due("share", x.share(0, 1), true);
            Check.dueRow("both", new int[] {x.person(0, 2), x.person(1, 2), x.person(0, 5), x.person(1, 5), x.person(0, 4), x.person(1, 4),
                x.person(0, 3), x.person(1, 3), x.tree(0, 4), x.count(7), x.count(8)}, 0, 0, 1, 0, road, road, 1, 0, 3, 3, 2 * road);
        }
    }

    private static void halfCut() {
        Sentence.of("10", "GRAFT: the last of a TREE is the half of its own and another one's together, cut");
        int[][] lasts = {{0, 0, 0}, {0, 1, 0}, {1, 0, 0}, {1, 1, 1}, {1, 2, 1}, {2, 1, 1}, {3, 0, 1}, {0, 30, 15}, {0, 29, 14}, {29, 30, 29},
            {30, 29, 29}, {30, 30, 30}, {30, 27, 28}, {30, 0, 15}};
        for (int[] row : lasts) {
            ShoeOrchard x = Check.of("tree a slipper last " + row[0] + " age 3 ; tree b boot last " + row[1] + " age 4 ; frost 1 ;");
            Check.due("of " + row[0] + " and " + row[1], x.graft(0, 1), row[2]);
            Check.dueRow("lasts, ages", new int[] {x.tree(0, 1), x.tree(1, 1), x.tree(0, 2), x.tree(1, 2)}, row[2], row[1], 3, 4);
            Check.due("done, even if it is the same", x.count(11), 1);
        }
    }

    private static void graftedByItself() {
        Sentence.of("10", "GRAFT: the last then; NONE: others, the same");
        ShoeOrchard x = Check.of(LanguageEdges.trees(6));
        for (int tree = -1; tree <= 6; tree++) {
            boolean there = tree >= 0 && tree <= 5;
            Check.due("itself " + tree, x.graft(tree, tree), -1);
            Check.due(tree + " by 2", x.graft(tree, 2), there && tree != 2 ? (tree + 2) / 2 : -1);
            if (there && tree != 2) {
                x.undo();
            }
            Check.due("3 by " + tree, x.graft(3, tree), there && tree != 3 ? (tree + 3) / 2 : -1);
            if (there && tree != 3) {
                x.undo();
            }
        }
        Check.due("nothing more", x.count(11), 0);
    }

    private static void oneLess() {
        Sentence.of("11", "PRUNE: its last is 1 less, 0 at least");
        for (int last = 0; last <= 30; last += last < 3 ? 1 : 9) {
            ShoeOrchard x = Check.of("tree a slipper last " + last + " age 0 ; frost 3 ;");
            for (int often = 1; often <= last + 2; often++) {
                Check.due(last + " pruned " + often + " times", x.prune(0), Math.max(0, last - often));
                Check.due("last", x.tree(0, 1), Math.max(0, last - often));
            }
            Check.due("done, even if it is the same", x.count(11), Math.min(16, last + 2));
        }
    }

    private static void lastsOfYears() {
        Sentence.of("12 5", "each TREE that does not BEAR has its last 1 less (0 at least)");
        ShoeOrchard x = Check.of("tree a slipper last 0 age 0 ; tree b slipper last 1 age 0 ; tree c slipper last 2 age 0 ; "
                + "tree d boot last 2 age 0 ; tree e brogue last 2 age 0 ; tree f sandal last 2 age 0 ; frost 2 3 1 ;");
        int[][] due = {{0, 1, 2, 2, 2, 2}, {0, 0, 1, 2, 1, 2}, {0, 0, 0, 2, 0, 1}, {0, 0, 0, 2, 0, 1}, {0, 0, 0, 2, 0, 1}, {0, 0, 0, 2, 0, 0}};
        for (int year = 0; year < due.length; year++) {
            for (int tree = 0; tree < 6; tree++) {
                Check.due("last of " + tree + " in " + year, x.tree(tree, 1), due[year][tree]);
            }
            x.year();
        }
    }

    private static void agesOfYears() {
        Sentence.of("5 12 21 22 32", "all TREES are 1 older (99 at most)");
        ShoeOrchard x = Check.of("tree a slipper last 0 age 20 ; tree b boot last 0 age 0 ; frost 1 ;");
        for (int year = 0; year <= 101; year++) {
            Check.due("age of a in " + year, x.tree(0, 2), Math.min(99, 20 + year));
            Check.due("age of b in " + year, x.tree(1, 2), Math.min(99, year));
            x.year();
        }
        ShoeOrchard y = Check.of(OneAndOne.text("boot", 0, "plain", 30).replace("age 0", "age 20") + "pinch 0 ; bears years - 69 ;");
        ShoeOrchard z = Check.of(OneAndOne.text("boot", 0, "plain", 30).replace("age 0", "age 20") + "pinch 0 ; bears years - 70 ;");
        for (int year = 0; year < 40; year++) {
            y.year();
            z.year();
        }
        Check.dueRow("in 38, 39, 40", new int[] {y.later(0, 38), y.later(0, 39), y.later(0, 40)}, 29, 30, 30);
        Check.due("by 99", y.when(0), 39);
        Check.due("by 100", z.when(0), -1);
        for (int year = 40; year < 77; year++) {
            y.year();
            z.year();
        }
        Check.dueRow("97", new int[] {y.tree(0, 2), y.chance(0, 1, 5), y.chance(0, 2, 5), y.chance(0, 3, 5), y.chance(0, 6, 5)},
                97, 0, 1000000, 1000000, 1000000);
        Check.due("never 100", z.chance(0, 3, 5), 0);
    }

    private static void feetOfYears() {
        Sentence.of("6 12 21 32", "a child has 2 more feet (40 at most)");
        ShoeOrchard x = Check.of("person p child feet 30 ; person q child feet 29 ; person r child feet 0 ; person s plain feet 30 ; "
                + "person t hopper feet 30 ; person u old feet 30 ;");
        for (int year = 0; year <= 22; year++) {
            Check.due("of 30", x.person(0, 1), Math.min(40, 30 + 2 * year));
            Check.due("of 29", x.person(1, 1), Math.min(40, 29 + 2 * year));
            Check.due("of 0", x.person(2, 1), Math.min(40, 2 * year));
            Check.dueRow("no child", new int[] {x.person(3, 1), x.person(4, 1), x.person(5, 1)}, 30, 30, 30);
            x.year();
        }
        ShoeOrchard y = Check.of("tree a boot last 0 age 0 ; person p child feet 30 ; person q child feet 29 ; pinch 0 ; bears 40 ;");
        Check.due("38, 40", y.when(0), 5);
        Check.due("39, 40", y.when(1), 6);
        Check.dueRow("chance of 30", new int[] {y.chance(0, 4, 5), y.chance(0, 5, 5), y.chance(0, 6, 5)}, 0, 1000000, 1000000);
        Check.dueRow("chance of 29", new int[] {y.chance(1, 4, 5), y.chance(1, 5, 5), y.chance(1, 6, 5)}, 0, 0, 1000000);
    }

    private static void newMornings() {
        Sentence.of("5 6 12 36", "nobody has tried, is SHOD, shares");
        ShoeOrchard x = Check.of("tree a boot last 5 age 0 ; tree b boot last 9 age 0 ; person p plain feet 5 ; person q plain feet 5 ; "
                + "person r plain feet 15 ;");
        x.tryOn(0, 1);
        x.tryOn(0, 0);
        x.share(0, 1);
        x.tryOn(2, 1);
        x.year();
        for (int person = 0; person < 3; person++) {
            Check.dueRow("person " + person, new int[] {x.person(person, 2), x.person(person, 3), x.person(person, 5)}, -1, 0, -1);
        }
        Check.dueRow("nobody has a pair", new int[] {x.tree(0, 4), x.tree(1, 4), x.count(7)}, 0, 0, 0);
        Check.due("road stays", x.count(8), 4);
    }

    private static void nextYear() {
        Sentence.of("12 36", "it is the next year");
        ShoeOrchard x = Check.of("frost 0 1 2 3 ;");
        for (int year = 1; year <= 100; year++) {
            Check.due("the year that begins", x.year(), year);
            Check.due("the year", x.count(4), year);
            Check.due("its frost", x.count(5), year % 4);
        }
    }

    /** Each of the five, by number; the object must be able to do it. */
    private static void act(ShoeOrchard x, int act) {
        switch (act) {
            case 0 -> x.tryOn(0, 1);
            case 1 -> x.tryOn(0, 0);
            case 2 -> x.share(0, 1);
            case 3 -> x.graft(1, 0);
            case 4 -> x.prune(1);
            default -> x.year();
        }
    }

    private static ShoeOrchard toActOn() {
        return Check.of("tree a boot last 5 age 3 ; tree b boot last 30 age 4 ; tree c slipper last 9 age 1 ; person p plain feet 5 ; "
                + "person q child feet 2 ; pinch 3 ; frost 1 1 0 ;");
    }

    private static String all(ShoeOrchard x) {
        StringBuilder text = new StringBuilder();
        for (int i = 0; i < 3; i++) {
            for (int what = 1; what <= 5; what++) {
                text.append(x.tree(i, what)).append(' ').append(x.person(i, what)).append(' ');
            }
        }
        return text.append(x.count(4)).append(' ').append(x.count(7)).append(' ').append(x.count(8)).toString();
    }

    private static void lastSixteen() {
        Sentence.of("8-13 36", "UNDO: all of these, the last 16, one by one");
        for (int done : new int[] {0, 1, 15, 16, 17, 18, 32, 33, 50}) {
            ShoeOrchard x = new ShoeOrchard();
            for (int year = 0; year < done; year++) {
                x.year();
            }
            int held = Math.min(16, done);
            Check.due("what can be undone of " + done, x.count(11), held);
            for (int i = 1; i <= held; i++) {
                Check.due("undo " + i + " of " + done, x.undo(), true);
                Check.due("the year", x.count(4), done - i);
                Check.due("what can be undone", x.count(11), held - i);
            }
            Check.due("nothing more of " + done, x.undo(), false);
            Check.due("the year", x.count(4), done - held);
        }
    }

    private static ShoeOrchard actedOn(int acts) {
        ShoeOrchard x = toActOn();
        for (int i = 0; i < acts; i++) {
            act(x, i % 6);
        }
        return x;
    }

    private static void oneByOne() {
        Sentence.of("8-13", "UNDO: all of these, the last 16, one by one");
        for (int acts = 1; acts <= 18; acts++) {
            Check.due("act " + acts + " is done", all(actedOn(acts)).equals(all(actedOn(acts - 1))), false);
            int held = Math.min(16, acts);
            for (int undone = 0; undone <= held; undone++) {
                ShoeOrchard x = actedOn(acts);
                for (int i = 0; i < undone; i++) {
                    Check.due("undo", x.undo(), true);
                }
                Check.due(undone + " of " + acts + " undone", all(x).equals(all(actedOn(acts - undone))), true);
                Check.due("more can be", x.undo(), undone < held);
            }
        }
    }

    private static void refusedIsNothing() {
        Sentence.of("8-13", "UNDO: true; false: nothing can be");
        ShoeOrchard x = toActOn();
        Check.due("at first", x.undo(), false);
        x.tryOn(2, 0);
        x.tryOn(0, 3);
        x.tryOn(0, 2);
        x.share(0, 1);
        x.graft(0, 0);
        x.graft(0, 3);
        x.prune(3);
        Check.due("what could not be", x.count(11), 0);
        x.feel(0, true);
        x.mark(0, false);
        x.judged(0);
        x.ages(1, 99, 0);
        x.order(-1);
        Check.due("what is none of these", x.count(11), 0);
        Check.due("nothing", x.undo(), false);
        x.tryOn(0, 0);
        x.tryOn(0, 0);
        x.tryOn(1, 0);
        Check.due("one could be", x.count(11), 1);
        Check.due("one", x.undo(), true);
        Check.due("no second", x.undo(), false);
        Check.due("what is FELT stays", x.count(10), 1);
    }

    private static void undoneAndDone() {
        Sentence.of("8-13", "UNDO: all of these, the last 16, one by one");
        ShoeOrchard x = new ShoeOrchard();
        for (int year = 0; year < 20; year++) {
            x.year();
        }
        for (int i = 0; i < 10; i++) {
            x.undo();
        }
        Check.due("20 - 10", x.count(4), 10);
        for (int year = 0; year < 12; year++) {
            x.year();
        }
        Check.due("six of the old, twelve new", x.count(11), 16);
        for (int i = 0; i < 16; i++) {
            Check.due("undo " + i, x.undo(), true);
            Check.due("year", x.count(4), 21 - i);
        }
        Check.due("no more", x.undo(), false);
        Check.due("year", x.count(4), 6);
    }

    private static void marksNoughtToThree() {
        Sentence.of("35", "MARKS 0 to 3 hold all that UNDO brings back");
        for (int mark : new int[] {Integer.MIN_VALUE, -2, -1, 0, 1, 2, 3, 4, 5, Integer.MAX_VALUE}) {
            boolean there = mark >= 0 && mark <= 3;
            ShoeOrchard x = new ShoeOrchard();
            x.year();
            Check.due("nothing is on " + mark, x.mark(mark, true), false);
            Check.due("the year stays", x.count(4), 1);
            Check.due("laid " + mark, x.mark(mark, false), there);
            x.year();
            Check.due("back to " + mark, x.mark(mark, true), there);
            Check.due("year", x.count(4), there ? 1 : 2);
        }
        ShoeOrchard x = new ShoeOrchard();
        for (int mark = 0; mark < 4; mark++) {
            x.mark(mark, false);
            x.year();
        }
        for (int mark : new int[] {2, 0, 3, 1, 1}) {
            Check.due("back to " + mark, x.mark(mark, true), true);
            Check.due("each its own", x.count(4), mark);
        }
        x.mark(1, false);
        x.year();
        x.mark(1, false);
        x.year();
        x.mark(1, true);
        Check.due("the last one laid", x.count(4), 2);
    }

    private static void marksHold() {
        Sentence.of("35", "MARKS 0 to 3 hold all that UNDO brings back, what is FELT");
        for (int done = 0; done <= 6; done++) {
            ShoeOrchard x = toActOn();
            for (int i = 0; i < done; i++) {
                act(x, i);
            }
            String there = all(x);
            x.mark(2, false);
            Check.due("laying does nothing", all(x).equals(there), true);
            for (int i = done; i < 6; i++) {
                act(x, i);
            }
            x.year();
            x.mark(2, true);
            Check.due("as when it was laid behind " + done, all(x).equals(there), true);
        }
        ShoeOrchard x = toActOn();
        for (int felt = 0; felt <= 8; felt++) {
            if (felt == 0 || felt == 5 || felt == 8) {
                x.mark(felt / 3, false);
            }
            Check.due("feel " + felt, x.feel(0, felt == 0), felt < 8);
        }
        int[] due = {0, 5, 8};
        int[] feet = {41, 0, 0};
        for (int mark = 0; mark < 3; mark++) {
            x.mark(mark, true);
            Check.due("FELT at " + mark, x.count(10), due[mark]);
            Check.due("FEET at " + mark, x.feet(0), feet[mark]);
        }
        Check.due("8 are there", x.feel(0, true), false);
        x.mark(1, true);
        Check.due("5 are there", x.feel(0, true), true);
        Check.due("6", x.count(10), 6);
        ShoeOrchard y = Check.of("tree a boot last 5 age 0 ; tree b boot last 7 age 0 ; pinch 1 ;");
        y.mark(0, false);
        y.feel(0, true);
        y.feel(1, false);
        y.mark(1, false);
        y.mark(0, true);
        y.feel(1, true);
        y.feel(0, false);
        y.mark(2, false);
        y.mark(0, true);
        y.feel(0, false);
        y.feel(1, true);
        y.feel(1, false);
        Check.dueRow("by b and not by b", new int[] {y.count(10), y.feet(0)}, 3, 0);
        y.mark(1, true);
        Check.dueRow("by a, not by b", new int[] {y.count(10), y.feet(0), y.feet(1), y.feet(2)}, 2, 2, 4, 5);
        y.mark(2, true);
        Check.dueRow("by b, not by a", new int[] {y.count(10), y.feet(0), y.feet(1), y.feet(2)}, 2, 2, 7, 8);
        y.mark(0, true);
        y.feel(0, false);
        y.mark(3, false);
        y.mark(1, true);
        Check.dueRow("by a, not by b, again", new int[] {y.count(10), y.feet(0), y.feet(1), y.feet(2)}, 2, 2, 4, 5);
        y.mark(3, true);
        Check.dueRow("not by a", new int[] {y.count(10), y.feet(0), y.feet(1), y.feet(2)}, 1, 38, 0, 40);
        y.mark(0, true);
        Check.dueRow("by none", new int[] {y.count(10), y.feet(0), y.feet(1), y.feet(2)}, 0, 41, 0, 40);
    }

    private static void marksAndUndo() {
        Sentence.of("13 35 36", "(nothing can be undone when one is gone back to)");
        ShoeOrchard x = new ShoeOrchard();
        x.year();
        x.year();
        x.mark(0, false);
        Check.due("laying leaves it", x.count(11), 2);
        x.year();
        Check.due("a wrong one leaves it", x.mark(1, true), false);
        Check.due("three", x.count(11), 3);
        Check.due("back", x.mark(0, true), true);
        Check.due("none", x.count(11), 0);
        Check.due("nothing", x.undo(), false);
        Check.due("year", x.count(4), 2);
        x.year();
        Check.due("what is done then", x.undo(), true);
        Check.due("year", x.count(4), 2);
        Check.due("no more", x.undo(), false);
        ShoeOrchard y = new ShoeOrchard();
        for (int year = 0; year < 10; year++) {
            y.year();
        }
        y.mark(3, false);
        y.mark(3, true);
        for (int year = 0; year < 17; year++) {
            y.year();
        }
        Check.due("16 again", y.count(11), 16);
    }
}
