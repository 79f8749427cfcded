/** Boundaries of BEARS, SIZE and FITS ("Terms", and each promise that is told in these words). */
final class BearingEdges {
    private BearingEdges() {
    }

    static void run() {
        frostThatATreeStands();
        frostAndYears();
        frostAndSmallFeet();
        frostAndPairsOfThings();
        frostAndWhatIsFelt();
        sizeByOneTree();
        sizeByMoreThanOne();
        sizeLater();
        pinchApart();
        pinchAndOneOfTheOld();
        twiceTheSizeOfHoppers();
        grownFeet();
        fitsOfTwo();
    }

    private static void frostThatATreeStands() {
        Sentence.of("3 5-8 14-22 27 28 30 31 34 36", "A TREE BEARS a pair if the frost of the year is no more than it stands: "
                + "a brogue 1, a boot 3, a slipper 0, a sandal 2");
        for (int kind = 0; kind < 4; kind++) {
            for (int frost = 0; frost <= 3; frost++) {
                boolean bears = frost <= OneAndOne.STANDS[kind];
                String what = OneAndOne.TREES[kind] + " in frost " + frost;
                for (int feet = 10; feet <= 12; feet += 2) {
                    ShoeOrchard x = Check.of(OneAndOne.text(OneAndOne.TREES[kind], 10, "plain", feet) + "frost " + frost + " ;");
                    Check.due(what + ": its SIZE", x.tree(0, 3), bears ? 10 : -1);
                    OneAndOne.says(what, x, bears, feet == 10);
                    OneAndOne.judges(what, x, bears, feet == 10);
                    Check.due(what + ": mends", x.mends(0), !bears ? -1 : feet == 10 ? 0 : -1);
                }
                ShoeOrchard y = Check.of(OneAndOne.text(OneAndOne.TREES[kind], 10, "plain", 8) + "frost " + frost + " ;");
                Check.due(what + ": mends by a pruning", y.mends(0), bears ? 1 : -1);
            }
        }
    }

    private static void frostAndYears() {
        Sentence.of("12 14 21 22 32 34", "A TREE BEARS a pair if the frost of the year is no more than it stands");
        for (int kind = 0; kind < 4; kind++) {
            for (int frost = 0; frost <= 3; frost++) {
                boolean bears = frost <= OneAndOne.STANDS[kind];
                String what = OneAndOne.TREES[kind] + " in frost " + frost;
                ShoeOrchard x = Check.of(OneAndOne.text(OneAndOne.TREES[kind], 10, "plain", 9) + "pinch 0 ; frost " + frost + " 0 ;");
                Check.due(what + ": in a year", x.later(0, 1), bears ? 10 : 9);
                Check.due(what + ": when", x.when(0), bears ? -1 : 1);
                Check.tellMorning(x, "year ; try p a ;");
                Check.due(what + ": judged", x.judged(1), bears ? 1 : -1);
                x.year();
                Check.due(what + ": last", x.tree(0, 1), bears ? 10 : 9);
                ShoeOrchard y = Check.of(OneAndOne.text(OneAndOne.TREES[kind], 10, "plain", 10) + "frost 0 " + frost + " ;");
                Check.due(what + ": told of the next year", y.chance(0, 1, 0), bears ? 1000000 : 0);
                Check.due(what + ": later", y.later(0, 1), bears ? 10 : -1);
                y.year();
                OneAndOne.says(what + " in year 1", y, bears, true);
            }
            ShoeOrchard z = Check.of(OneAndOne.text(OneAndOne.TREES[kind], 10, "plain", 10) + "pinch 0 ;");
            boolean stands = OneAndOne.STANDS[kind] >= 3;
            Check.due("a cold year of a " + OneAndOne.TREES[kind], z.chance(0, 1, 10), stands ? 1000000 : 0);
            Check.due("a mild year", z.chance(0, 1, 0), 1000000);
        }
    }

    /** What is not borne is none, not a SIZE just below 0. */
    private static void frostAndSmallFeet() {
        Sentence.of("5-8 14-21 26-31 34", "A TREE BEARS a pair if the frost of the year is no more than it stands");
        for (int kind = 0; kind < 4; kind++) {
            for (int frost = 0; frost <= 3; frost++) {
                boolean bears = frost <= OneAndOne.STANDS[kind];
                for (String person : OneAndOne.PERSONS) {
                    for (int feet = 0; feet <= 5; feet++) {
                        String what = OneAndOne.TREES[kind] + " in frost " + frost + " of " + person + " " + feet;
                        ShoeOrchard x = Check.of(OneAndOne.text(OneAndOne.TREES[kind], 0, person, feet) + "pinch 5 ; frost " + frost + " ;");
                        OneAndOne.says(what, x, bears, true);
                        OneAndOne.judges(what, x, bears, true);
                        Check.due(what + ": mends", x.mends(0), bears ? 0 : -1);
                        Check.due(what + ": when", x.when(0), bears ? 0 : -1);
                        x.feel(0, false);
                        Check.due(what + ": feet", x.feet(0), bears ? 35 : 41);
                    }
                }
                ShoeOrchard y = Check.of("tree a " + OneAndOne.TREES[kind] + " last 2 age 0 ; person p plain feet 0 ; person q plain feet 0 ; "
                        + "pinch 0 ; frost " + frost + " ;");
                Check.due("mends of last 2", y.mends(0), bears ? 2 : -1);
                y.prune(0);
                Check.due("mends of last 1", y.mends(0), bears ? 1 : -1);
                y.prune(0);
                Check.due("mends of last 0", y.mends(0), bears ? 0 : -1);
                Check.due("pairs", y.pairs(), bears ? 1 : 0);
            }
        }
    }

    private static void frostAndPairsOfThings() {
        Sentence.of("9 26 29", "A TREE BEARS a pair if the frost of the year is no more than it stands");
        for (int kind = 0; kind < 4; kind++) {
            for (int frost = 0; frost <= 3; frost++) {
                boolean bears = frost <= OneAndOne.STANDS[kind];
                String what = OneAndOne.TREES[kind] + " in frost " + frost;
                ShoeOrchard x = Check.of("tree a " + OneAndOne.TREES[kind] + " last 10 age 0 ; tree b " + OneAndOne.TREES[kind]
                        + " last 10 age 0 ; person p plain feet 10 ; person q plain feet 11 ; frost " + frost + " ;");
                Check.due(what + ": pairs", x.pairs(), bears ? 1 : 0);
                Check.due(what + ": twins", x.twins(), bears ? 1 : 0);
                Check.due(what + ": bears", x.count(6), bears ? 3 : 0);
                x.tryOn(0, 1);
                Check.due(what + ": share", x.share(0, 1), bears);
            }
        }
    }

    private static void frostAndWhatIsFelt() {
        Sentence.of("23 24 25", "(one that does not BEAR then tells nothing)");
        for (int kind = 0; kind < 4; kind++) {
            for (int frost = 0; frost <= 3; frost++) {
                boolean bears = frost <= OneAndOne.STANDS[kind];
                String what = OneAndOne.TREES[kind] + " in frost " + frost;
                ShoeOrchard x = Check.of("tree a " + OneAndOne.TREES[kind] + " last 10 age 0 ; frost " + frost + " 0 ; pinch 0 ;");
                Check.due(what + ": ask", x.ask(), bears ? 0 : -1);
                Check.due(what + ": feel", x.feel(0, true), true);
                Check.due(what + ": feet", x.feet(0), bears ? 1 : 41);
                Check.due(what + ": the least", x.feet(1), bears ? 10 : 0);
                Check.due(what + ": the greatest", x.feet(2), bears ? 10 : 40);
                Check.due(what + ": ask", x.ask(), -1);
                x.year();
                Check.due(what + ": feet when it BEARS", x.feet(1), bears ? 10 : 9);
                Check.due(what + ": felt", x.count(10), 1);
            }
        }
    }

    /** E by the last 0: what a SIZE must be by "(0 to 40)". */
    private static final String[] LAWS = {"0 - 9999", "0 - 2", "0 - 1", "0", "1", "39", "40", "41", "42", "9999",
        "8192 * 8192 * 32", "8192 * 8192 * 32 - 1"};
    private static final int[] SIZES = {0, 0, 0, 0, 1, 39, 40, 40, 40, 40, 0, 40};

    private static void sizeByOneTree() {
        Sentence.of("3 5-8 14-22 27 28 30 31 34", "its SIZE is the E of bears (0 to 40)");
        for (int i = 0; i < LAWS.length; i++) {
            String law = "pinch 0 ; bears " + LAWS[i] + " ;";
            ShoeOrchard x = Check.of(OneAndOne.text("boot", 5, "plain", 0) + law);
            Check.due(LAWS[i], x.tree(0, 3), SIZES[i]);
            OneAndOne.says(LAWS[i] + " of feet 0", x, true, SIZES[i] == 0);
            OneAndOne.judges(LAWS[i] + " of feet 0", x, true, SIZES[i] == 0);
            Check.due(LAWS[i] + ": lack", x.lack(0), SIZES[i]);
            ShoeOrchard y = Check.of(OneAndOne.text("boot", 5, "child", 30) + law);
            for (int year = 0; year < 5; year++) {
                y.year();
            }
            Check.due("grown", y.person(0, 1), 40);
            OneAndOne.says(LAWS[i] + " of feet 40", y, true, SIZES[i] == 40);
            Check.due(LAWS[i] + ": lack of 40", y.lack(0), 40 - SIZES[i]);
            Check.due(LAWS[i] + ": chance", y.chance(0, 1, 5), SIZES[i] == 40 ? 1000000 : 0);
        }
    }

    private static void sizeByMoreThanOne() {
        Sentence.of("9 23-26 29 32", "its SIZE is the E of bears (0 to 40)");
        for (int i = 0; i < LAWS.length; i++) {
            ShoeOrchard x = Check.of("tree a boot last 5 age 0 ; pinch 0 ; bears " + LAWS[i] + " ;");
            Check.due(LAWS[i] + ": it parts", x.ask(), 0);
            x.feel(0, true);
            Check.dueRow(LAWS[i] + ": feet", new int[] {x.feet(0), x.feet(1), x.feet(2)}, 1, SIZES[i], SIZES[i]);
        }
        ShoeOrchard low = Check.of("tree a boot last 0 age 0 ; tree b boot last 1 age 0 ; tree c boot last 2 age 0 ; tree d boot last 3 age 0 ; "
                + "person p plain feet 0 ; person q plain feet 0 ; pinch 0 ; bears size - 2 ;");
        Check.due("0, 0, 0, 1: twins", low.twins(), 3);
        Check.due("fitted", low.fitted(0), 7);
        Check.due("pairs", low.pairs(), 1);
        Check.due("idle", low.idle(), 8);
        low.tryOn(0, 0);
        Check.due("share", low.share(0, 1), true);
        ShoeOrchard high = Check.of("tree a boot last 0 age 0 ; tree b boot last 1 age 0 ; tree c boot last 2 age 0 ; tree d boot last 3 age 0 ; "
                + "bears size + 39 ;");
        Check.due("39, 40, 40, 40: twins", high.twins(), 3);
        ShoeOrchard half = Check.of(OneAndOne.text("boot", 0, "hopper", 3) + "pinch 1 ; bears 0 - 1 ;");
        Check.due("twice 0", half.fits(0, 0), false);
        Check.due("lack by twice 0", half.lack(0), 2);
    }

    private static void sizeLater() {
        Sentence.of("21 22 32", "its SIZE is the E of bears (0 to 40)");
        ShoeOrchard x = Check.of(OneAndOne.text("boot", 0, "child", 30) + "pinch 0 ; bears date + 37 ;");
        Check.dueRow("later", new int[] {x.later(0, 0), x.later(0, 1), x.later(0, 2), x.later(0, 3), x.later(0, 4), x.later(0, 40)},
                37, 38, 39, 40, 40, 40);
        Check.due("when feet and SIZE are 40", x.when(0), 5);
        Check.due("chance", x.chance(0, 4, 5), 0);
        Check.due("chance", x.chance(0, 5, 5), 1000000);
        Check.due("chance", x.chance(0, 6, 5), 1000000);
        ShoeOrchard y = Check.of(OneAndOne.text("boot", 0, "plain", 0) + "pinch 0 ; bears 2 - date ;");
        Check.dueRow("later", new int[] {y.later(0, 0), y.later(0, 1), y.later(0, 2), y.later(0, 3), y.later(0, 40)}, 2, 1, 0, 0, 0);
        Check.due("when", y.when(0), 2);
        Check.due("chance", y.chance(0, 1, 5), 0);
        Check.due("chance", y.chance(0, 2, 5), 1000000);
        Check.due("chance", y.chance(0, 3, 5), 1000000);
    }

    /** Of a PERSON of this kind and these feet, by each pinch and SIZE. */
    private static void fits(String kind, int feet, boolean hops, int more) {
        for (int pinch = 0; pinch <= 5; pinch++) {
            for (int size = 0; size <= 30; size++) {
                String what = kind + " " + feet + " by " + size + " with pinch " + pinch;
                boolean near = Math.abs(size - feet) <= pinch + more || hops && Math.abs(2 * size - feet) <= pinch;
                ShoeOrchard x = Check.of(OneAndOne.text("boot", size, kind, feet) + "pinch " + pinch + " ;");
                OneAndOne.says(what, x, true, near);
                OneAndOne.judges(what, x, true, near);
            }
        }
    }

    private static void pinchApart() {
        Sentence.of("7 8 14-21 27 28 30 31 34", "It FITS a PERSON if its SIZE and the feet are no more than pinch apart");
        fits("plain", 15, false, 0);
        fits("child", 7, false, 0);
        fits("plain", 0, false, 0);
        fits("plain", 30, false, 0);
    }

    private static void pinchAndOneOfTheOld() {
        Sentence.of("7 8 14-21 27 28 30 31 34", "of an old one no more than pinch and 1");
        fits("old", 15, false, 1);
        fits("old", 0, false, 1);
    }

    private static void twiceTheSizeOfHoppers() {
        Sentence.of("7 8 14-21 27 28 30 31 34", "a hopper also if twice the SIZE does");
        fits("hopper", 15, true, 0);
        fits("hopper", 30, true, 0);
        fits("hopper", 0, true, 0);
        fits("hopper", 1, true, 0);
    }

    private static void grownFeet() {
        Sentence.of("7 8 15-22 27 28 30 31", "no more than pinch apart");
        for (int size = 33; size <= 40; size++) {
            ShoeOrchard x = Check.of(OneAndOne.text("boot", 0, "child", 30) + "pinch 3 ; bears " + size + " ;");
            for (int year = 0; year < 5; year++) {
                x.year();
            }
            OneAndOne.says("40 by " + size, x, true, size >= 37);
        }
    }

    private static void fitsOfTwo() {
        Sentence.of("9 23 24 26 29 32", "no more than pinch apart");
        String[] kinds = OneAndOne.PERSONS;
        for (int pinch = 0; pinch <= 5; pinch++) {
            for (int apart = 0; apart <= 8; apart++) {
                for (int kind = 0; kind < 4; kind++) {
                    boolean near = apart <= pinch + (kind == 3 ? 1 : 0);
                    String what = kinds[kind] + " " + apart + " apart with pinch " + pinch;
                    ShoeOrchard x = Check.of("tree a boot last 20 age 0 ; person p plain feet 20 ; person q " + kinds[kind] + " feet "
                            + (20 - apart) + " ; pinch " + pinch + " ;");
                    Check.due(what + ": pairs", x.pairs(), near ? 1 : 0);
                    Check.due(what + ": wearers", x.wearers(0), near ? 3 : 1);
                    x.tryOn(0, 0);
                    Check.due(what + ": share", x.share(0, 1), near);
                    if (kind != 1) {
                        Check.due(what + ": chance", x.chance(1, 1, 5), near ? 1000000 : 0);
                    }
                }
            }
            ShoeOrchard y = Check.of("tree a boot last 20 age 0 ; pinch " + pinch + " ;");
            y.feel(0, true);
            Check.dueRow("feet by pinch " + pinch, new int[] {y.feet(0), y.feet(1), y.feet(2)}, 2 * pinch + 1, 20 - pinch, 20 + pinch);
            ShoeOrchard z = Check.of("tree a boot last 20 age 0 ; pinch " + pinch + " ;");
            z.feel(0, false);
            Check.dueRow("feet pinched by pinch " + pinch, new int[] {z.feet(0), z.feet(1), z.feet(2)}, 40 - 2 * pinch, 0, 40);
        }
    }
}
