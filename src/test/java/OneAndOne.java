/** An ORCHARD of one TREE and one PERSON, and what each promise told in BEARS and FITS says of them. */
final class OneAndOne {
    static final String[] TREES = {"brogue", "boot", "slipper", "sandal"};
    static final int[] STANDS = {1, 3, 0, 2};
    static final int[] ROADS = {3, 2, 0, 1};
    static final String[] PERSONS = {"plain", "child", "hopper", "old"};

    private OneAndOne() {
    }

    static String text(String tree, int last, String person, int feet) {
        return "tree a " + tree + " last " + last + " age 0 ; person p " + person + " feet " + feet + " ; ";
    }

    /** Of a PERSON who has not tried; nothing is changed at last. */
    static void says(String what, ShoeOrchard x, boolean bears, boolean fits) {
        boolean both = bears && fits;
        int road = both ? ROADS[x.tree(0, 0)] : 0;
        int undone = x.count(11);
        Check.due(what + ": bears", x.count(6), bears ? 1 : 0);
        Check.due(what + ": size", x.tree(0, 3) != -1, bears);
        Check.due(what + ": fits", x.fits(0, 0), both);
        Check.due(what + ": fitted", x.fitted(0), both ? 1 : 0);
        Check.due(what + ": wearers", x.wearers(0), !bears ? -1 : fits ? 1 : 0);
        Check.due(what + ": shoes", x.shoes(-1), both ? 1 : 0);
        Check.due(what + ": shoes 0", x.shoes(0), both ? 0 : -1);
        Check.due(what + ": roads", x.roads(-1), road);
        Check.due(what + ": roads 0", x.roads(0), both ? 0 : -1);
        Check.due(what + ": order", x.order(-1), both ? 1 : 0);
        Check.due(what + ": order 0", x.order(0), 0);
        Check.due(what + ": mends", x.mends(0) == 0, both);
        Check.due(what + ": when", x.when(0) == 0, both);
        Check.due(what + ": later", x.later(0, 0), x.tree(0, 3));
        Check.due(what + ": idle", x.idle(), bears && !fits ? 1 : 0);
        Check.due(what + ": sole", x.sole(), both ? 1 : 0);
        Check.due(what + ": best", x.best(), bears ? 0 : -1);
        Check.due(what + ": lack", x.lack(0) == 0, both);
        Check.due(what + ": lack", x.lack(0) == -1, !bears);
        // the draws of seed 1 are 16838, 5758, 10113: of each the first, and neither a year nor a graft
        Check.due(what + ": ages", x.ages(1, 1, 0), both ? 1 : 0);
        Check.due(what + ": ages' road", x.ages(1, 1, 2), road);
        tries(what, x, bears, fits, road);
        Check.due(what + ": nothing is changed", x.count(11), undone);
    }

    private static void tries(String what, ShoeOrchard x, boolean bears, boolean fits, int road) {
        boolean both = bears && fits;
        boolean full = x.count(11) == 16;
        int gone = x.count(8);
        Check.due(what + ": tryOn", x.tryOn(0, 0), !bears ? -1 : fits ? 1 : 0);
        Check.due(what + ": shod", x.person(0, 2), both ? 0 : -1);
        Check.due(what + ": tried", x.person(0, 3), bears ? 1 : 0);
        Check.due(what + ": road", x.count(8) - gone, road);
        Check.due(what + ": who has it", x.tree(0, 4), both ? 1 : 0);
        if (bears && !full) {
            x.undo();
        }
    }

    /** By a MORNING of one try, of an ORCHARD just told. */
    static void judges(String what, ShoeOrchard x, boolean bears, boolean fits) {
        Check.due(what + ": morning", Check.tellMorning(x, "try p a ;"), 0);
        Check.due(what + ": can't be", x.judged(0), bears ? -1 : 0);
        Check.due(what + ": pinched", x.judged(1), bears && !fits ? 0 : -1);
        Check.due(what + ": road", x.judged(2), bears && fits ? ROADS[x.tree(0, 0)] : 0);
    }
}
