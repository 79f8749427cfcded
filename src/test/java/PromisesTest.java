/** Promises 1 and 5 to 36, one section each, with answers worked out by hand from the document. */
public final class PromisesTest {
    private static final String VALLEY = "tree oak brogue last 10 age 5 ; tree ash boot last 14 age 2 ; "
            + "tree elm slipper last 11 age 9 ; tree fir sandal last 5 age 1 ; "
            + "person ann plain feet 10 ; person bob child feet 13 ; person cid hopper feet 9 ; "
            + "person dan old feet 12 ; ";

    public static void main(String[] args) {
        newObject();
        trees();
        persons();
        fitting();
        trying();
        sharing();
        grafting();
        pruning();
        years();
        undoing();
        judging();
        fittedAndWearers();
        shoes();
        roads();
        orders();
        mends();
        when();
        later();
        feeling();
        asking();
        pairsIdleSoleTwinsBest();
        lack();
        chance();
        rests();
        ages();
        marks();
        counts();
        Check.end();
    }

    private static void newObject() {
        ShoeOrchard x = new ShoeOrchard();
        int[] counts = new int[13];
        for (int what = 0; what < 13; what++) {
            counts[what] = x.count(what);
        }
        Check.dueRow("counts", counts, 0, 0, 1, 3, 0, 0, 0, 0, 0, 0, 0, 0, 0);
        Check.due("NONE", ShoeOrchard.NONE, -1);
        Check.due("no tree", x.tree(0, 0), -2);
        Check.due("no person", x.person(0, 0), -2);
        Check.due("no line", x.judged(0), -1);
        Check.due("no try", x.tryOn(0, 0), -1);
        Check.due("no fit", x.fits(0, 0), false);
        Check.due("feet", x.feet(0), 41);
        Check.due("no mark", x.mark(0, true), false);
        Check.due("no undo", x.undo(), false);
        Check.due("nobody's order", x.order(-1), 0);
        Check.due("a year", x.year(), 1);
    }

    private static void trees() {
        ShoeOrchard x = Check.of(VALLEY + "frost 1 2 3 ;");
        for (int tree = 0; tree < 4; tree++) {
            Check.due("kind", x.tree(tree, 0), tree);
        }
        Check.due("last", x.tree(2, 1), 11);
        Check.due("age", x.tree(2, 2), 9);
        Check.due("size", x.tree(1, 3), 14);
        Check.due("a slipper does not stand 1", x.tree(2, 3), -1);
        Check.due("a brogue stands 1", x.tree(0, 3), 10);
        Check.due("nobody has it", x.tree(0, 4), 0);
        x.tryOn(0, 0);
        x.share(0, 2);
        Check.due("who has it", x.tree(0, 4), 5);
        Check.due("who has another one", x.tree(1, 4), 0);
        Check.due("what 5", x.tree(0, 5), -2);
        Check.due("what -1", x.tree(0, -1), -2);
        Check.due("tree 4", x.tree(4, 0), -2);
        Check.due("tree -1", x.tree(-1, 0), -2);
        Check.due("far off", x.tree(Integer.MAX_VALUE, Integer.MIN_VALUE), -2);
        x.year();
        Check.due("by 2: boot, sandal", x.count(6), 10);
        x.year();
        Check.due("by 3: boot", x.count(6), 2);
        x.year();
        Check.due("again from the first", x.count(6), 11);
    }

    private static void persons() {
        ShoeOrchard x = Check.of(VALLEY);
        for (int person = 0; person < 4; person++) {
            Check.due("kind", x.person(person, 0), person);
        }
        Check.due("feet", x.person(1, 1), 13);
        Check.due("not shod", x.person(0, 2), -1);
        Check.due("not tried", x.person(0, 3), 0);
        Check.due("no road", x.person(0, 4), 0);
        Check.due("shares with nobody", x.person(0, 5), -1);
        x.tryOn(0, 1);
        x.tryOn(0, 0);
        x.share(0, 3);
        Check.due("shod", x.person(0, 2), 0);
        Check.due("tried", x.person(0, 3), 2);
        Check.due("road", x.person(0, 4), 3);
        Check.due("shares", x.person(0, 5), 3);
        Check.due("shares", x.person(3, 5), 0);
        Check.due("sharing is no try", x.person(3, 3), 0);
        Check.due("what 6", x.person(0, 6), -2);
        Check.due("what -1", x.person(0, -1), -2);
        Check.due("person 4", x.person(4, 0), -2);
        Check.due("person -1", x.person(-1, 0), -2);
    }

    private static void fitting() {
        ShoeOrchard x = Check.of("tree a boot last 10 age 0 ; tree b boot last 5 age 0 ; tree c slipper last 10 age 0 ; "
                + "person p plain feet 12 ; person q plain feet 13 ; person r old feet 13 ; person s old feet 14 ; "
                + "person t hopper feet 12 ; person u hopper feet 7 ; pinch 2 ; frost 0 1 ;");
        int[] wanted = {5, 0, 5, 0, 7, 2};
        for (int person = 0; person < 6; person++) {
            for (int tree = 0; tree < 3; tree++) {
                Check.due("fits " + person + " " + tree, x.fits(person, tree), (wanted[person] >> tree & 1) != 0);
            }
        }
        Check.due("person 6", x.fits(6, 0), false);
        Check.due("person -1", x.fits(-1, 0), false);
        Check.due("tree 3", x.fits(0, 3), false);
        Check.due("tree -1", x.fits(0, -1), false);
        x.year();
        Check.due("one that does not bear", x.fits(0, 2), false);
        Check.due("one that bears", x.fits(0, 0), true);
        ShoeOrchard none = Check.of("tree a boot last 0 age 0 ; person p hopper feet 1 ; person q old feet 1 ; pinch 0 ;");
        Check.due("a hopper is a plain one else", none.fits(0, 0), false);
        Check.due("an old one by pinch and 1", none.fits(1, 0), true);
    }

    private static void trying() {
        ShoeOrchard x = Check.of(VALLEY + "noon 2 ; frost 0 1 ;");
        Check.due("it pinches", x.tryOn(1, 0), 0);
        Check.due("tried", x.person(1, 3), 1);
        Check.due("not shod", x.person(1, 2), -1);
        Check.due("it fits", x.tryOn(1, 1), 1);
        Check.due("shod already", x.tryOn(1, 2), -1);
        Check.due("somebody has it", x.tryOn(0, 1), -1);
        Check.due("that was no try", x.person(0, 3), 0);
        Check.due("it pinches", x.tryOn(0, 3), 0);
        Check.due("again", x.tryOn(0, 3), 0);
        Check.due("noon has come", x.tryOn(0, 0), -1);
        Check.due("tried", x.person(0, 3), 2);
        Check.due("person 4", x.tryOn(4, 0), -1);
        Check.due("person -1", x.tryOn(-1, 0), -1);
        Check.due("tree 4", x.tryOn(2, 4), -1);
        Check.due("tree -1", x.tryOn(2, -1), -1);
        x.year();
        Check.due("a new morning", x.tryOn(0, 0), 1);
        Check.due("it does not bear", x.tryOn(3, 2), -1);
        ShoeOrchard y = Check.of("tree a brogue last 5 age 0 ; tree b boot last 5 age 0 ; tree c slipper last 5 age 0 ; "
                + "tree d sandal last 5 age 0 ; person p plain feet 5 ; ");
        for (int tree = 0; tree < 4; tree++) {
            y.tryOn(0, tree);
            y.year();
        }
        Check.due("roads 3 + 2 + 0 + 1", y.person(0, 4), 6);
    }

    private static void sharing() {
        ShoeOrchard x = Check.of(VALLEY + "noon 1 ;");
        Check.due("nobody is shod", x.share(0, 3), false);
        x.tryOn(0, 0);
        Check.due("by the one who is not", x.share(3, 0), false);
        Check.due("it does not fit", x.share(0, 1), false);
        Check.due("himself", x.share(0, 0), false);
        Check.due("person 4", x.share(0, 4), false);
        Check.due("person -1", x.share(-1, 0), false);
        x.tryOn(3, 1 + 2);
        Check.due("noon has come for him", x.tryOn(3, 0), -1);
        Check.due("he can share", x.share(0, 3), true);
        Check.due("his road", x.person(3, 4), 3);
        Check.due("the other one's road stays", x.person(0, 4), 3);
        Check.due("he shares already", x.share(0, 2), false);
        Check.due("he, too", x.share(3, 2), false);
        x.undo();
        x.graft(0, 3);
        Check.due("the pair is of another size now", x.share(0, 3), false);
        x.undo();
        x.tryOn(2, 3);
        Check.due("the other one is shod", x.share(0, 2), false);
    }

    private static void grafting() {
        ShoeOrchard x = Check.of(VALLEY);
        Check.due("the half, cut", x.graft(0, 3), 7);
        Check.due("the other one stays", x.tree(3, 1), 5);
        Check.due("once more", x.graft(3, 0), 6);
        Check.due("itself", x.graft(1, 1), -1);
        Check.due("tree 4", x.graft(0, 4), -1);
        Check.due("tree 4", x.graft(4, 0), -1);
        Check.due("tree -1", x.graft(-1, 0), -1);
        Check.due("tree -1", x.graft(0, -1), -1);
        Check.due("two were done", x.count(11), 2);
    }

    private static void pruning() {
        ShoeOrchard x = Check.of("tree a slipper last 1 age 0 ; frost 3 ;");
        Check.due("1 less", x.prune(0), 0);
        Check.due("0 at least", x.prune(0), 0);
        Check.due("tree 1", x.prune(1), -1);
        Check.due("tree -1", x.prune(-1), -1);
        Check.due("two were done", x.count(11), 2);
    }

    private static void years() {
        ShoeOrchard x = Check.of("tree a slipper last 1 age 20 ; tree b boot last 9 age 0 ; person p child feet 30 ; "
                + "person q plain feet 9 ; frost 1 0 ; ");
        x.tryOn(1, 1);
        Check.due("the year that begins", x.year(), 1);
        Check.due("it did not bear", x.tree(0, 1), 0);
        Check.due("it bore", x.tree(1, 1), 9);
        Check.due("older", x.tree(0, 2), 21);
        Check.due("a child's feet", x.person(0, 1), 32);
        Check.due("others' feet", x.person(1, 1), 9);
        Check.due("nobody is shod", x.person(1, 2), -1);
        Check.due("nobody has tried", x.person(1, 3), 0);
        Check.due("road stays", x.person(1, 4), 2);
        for (int year = 2; year <= 85; year++) {
            Check.due("year", x.year(), year);
            Check.due("feet", x.person(0, 1), Math.min(40, 30 + 2 * year));
            Check.due("age", x.tree(0, 2), Math.min(99, 20 + year));
            Check.due("last", x.tree(0, 1), 0);
        }
        ShoeOrchard y = Check.of("tree a boot last 9 age 0 ; person p plain feet 9 ; person q plain feet 9 ;");
        y.tryOn(0, 0);
        y.share(0, 1);
        y.year();
        Check.due("nobody shares", y.person(0, 5), -1);
        Check.due("nobody shares", y.person(1, 5), -1);
    }

    private static void undoing() {
        ShoeOrchard x = Check.of(VALLEY + "noon 2 ;");
        x.feel(0, true);
        x.tryOn(0, 3);
        x.tryOn(0, 0);
        x.share(0, 3);
        x.graft(1, 2);
        x.prune(3);
        x.year();
        Check.due("six", x.count(11), 6);
        Check.due("undo", x.undo(), true);
        Check.due("the year", x.count(4), 0);
        Check.due("bob's feet", x.person(1, 1), 13);
        Check.due("they share", x.person(3, 5), 0);
        x.undo();
        Check.due("pruning", x.tree(3, 1), 5);
        x.undo();
        Check.due("graft", x.tree(1, 1), 14);
        x.undo();
        Check.due("share", x.tree(0, 4), 1);
        Check.due("share", x.person(0, 5), -1);
        Check.due("share", x.person(3, 4), 0);
        x.undo();
        Check.due("shod", x.person(0, 2), -1);
        Check.due("tried once", x.person(0, 3), 1);
        x.undo();
        Check.due("not tried", x.person(0, 3), 0);
        Check.due("nothing more", x.undo(), false);
        Check.due("what is felt stays", x.count(10), 1);
        for (int i = 0; i < 20; i++) {
            x.year();
        }
        x.tryOn(9, 9);
        x.graft(0, 0);
        Check.due("16 at most", x.count(11), 16);
        for (int i = 0; i < 16; i++) {
            Check.due("undo", x.undo(), true);
            Check.due("year", x.count(4), 19 - i);
        }
        Check.due("the 17th", x.undo(), false);
        Check.due("year", x.count(4), 4);
    }

    private static void judging() {
        ShoeOrchard x = Check.of(VALLEY + "noon 2 ; frost 0 2 ;");
        Check.due("no morning", x.judged(0), -1);
        Check.due("no morning", x.judged(1), -1);
        Check.due("no morning", x.judged(2), 0);
        Check.tellMorning(x, "try ann oak ; share ann dan ; graft oak fir ; prune elm ; year ; try bob ash ;");
        Check.due("all can be", x.judged(0), -1);
        Check.due("all fit", x.judged(1), -1);
        Check.due("3 + 3 + 2", x.judged(2), 8);
        x.year();
        x.tryOn(1, 1);
        Check.due("from the begin", x.judged(2), 8);
        Check.due("nothing is done", x.count(4), 1);
        Check.due("nothing is done", x.count(8), 2);
        Check.tellMorning(x, "try ann ash ; try ann fir ; try ann oak ; try dan oak ; share ann dan ; share dan bob ; try cid oak ;");
        Check.due("noon", x.judged(0), 2);
        Check.due("it pinched", x.judged(1), 0);
        Check.due("dan alone", x.judged(2), 3);
        Check.tellMorning(x, "year ; year ; try ann elm ; year ; try ann elm ; try cid ash ;");
        Check.due("a slipper in frost", x.judged(0), 4);
        Check.due("cid pinched", x.judged(1), 5);
        Check.due("road", x.judged(2), 0);
        Check.due("what 3", x.judged(3), -2);
        Check.due("what -1", x.judged(-1), -2);
    }

    private static void fittedAndWearers() {
        ShoeOrchard x = Check.of(VALLEY + "frost 0 2 ;");
        int[] fitted = {5, 2, 9, 7};
        int[] wearers = {13, 10, 9, 4};
        for (int i = 0; i < 4; i++) {
            Check.due("fitted " + i, x.fitted(i), fitted[i]);
            Check.due("wearers " + i, x.wearers(i), wearers[i]);
        }
        x.tryOn(0, 0);
        Check.due("whoever has them", x.fitted(0), 5);
        Check.due("whoever has it", x.wearers(0), 13);
        Check.due("person 4", x.fitted(4), -1);
        Check.due("person -1", x.fitted(-1), -1);
        Check.due("tree 4", x.wearers(4), -1);
        Check.due("tree -1", x.wearers(-1), -1);
        x.year();
        Check.due("only those that bear", x.fitted(3), 2);
        Check.due("only those that bear", x.fitted(0), 0);
        Check.due("it does not bear", x.wearers(0), -1);
    }

    private static int[] row(ShoeOrchard x, boolean byRoad, int persons) {
        int[] row = new int[persons];
        for (int person = 0; person < persons; person++) {
            row[person] = byRoad ? x.roads(person) : x.shoes(person);
        }
        return row;
    }

    private static void shoes() {
        ShoeOrchard x = Check.of(VALLEY);
        Check.due("all", x.shoes(-1), 4);
        Check.dueRow("row", row(x, false, 4), 0, 1, 3, 2);
        x.tryOn(3, 1);
        Check.due("two", x.shoes(-1), 2);
        Check.dueRow("row", row(x, false, 4), 0, -1, 3, -1);
        Check.due("person 4", x.shoes(4), -2);
        Check.due("person -2", x.shoes(-2), -2);
        ShoeOrchard y = Check.of("tree a boot last 5 age 0 ; tree b boot last 5 age 0 ; person p plain feet 5 ; "
                + "person q plain feet 5 ; person r plain feet 5 ; noon 1 ;");
        Check.due("two of three", y.shoes(-1), 2);
        Check.dueRow("who is not is behind all others", row(y, false, 3), 0, 1, -1);
        y.tryOn(0, 0);
        y.undo();
        Check.due("nobody has it", y.shoes(-1), 2);
        ShoeOrchard z = Check.of("tree a boot last 4 age 0 ; tree b boot last 6 age 0 ; person p plain feet 5 ; person q plain feet 3 ;");
        Check.dueRow("p lets q have a", row(z, false, 2), 1, 0);
    }

    private static void roads() {
        ShoeOrchard x = Check.of(VALLEY);
        Check.due("6", x.roads(-1), 6);
        Check.dueRow("row", row(x, true, 4), 0, 1, 3, 2);
        Check.due("person 4", x.roads(4), -2);
        Check.due("person -2", x.roads(-2), -2);
        ShoeOrchard y = Check.of("tree a slipper last 5 age 0 ; tree b sandal last 5 age 0 ; tree c brogue last 5 age 0 ; "
                + "person p plain feet 5 ; person q plain feet 5 ;");
        Check.due("sandal and brogue", y.roads(-1), 4);
        Check.dueRow("row", row(y, true, 2), 1, 2);
        Check.dueRow("by number", row(y, false, 2), 0, 1);
        y.tryOn(0, 2);
        Check.due("of those who are not shod", y.roads(-1), 1);
        Check.dueRow("row", row(y, true, 2), -1, 1);
        ShoeOrchard z = Check.of("tree a slipper last 4 age 0 ; tree b slipper last 6 age 0 ; person p plain feet 5 ; person q plain feet 3 ;");
        Check.due("no road", z.roads(-1), 0);
        Check.dueRow("only the road counts, then the first row", row(z, true, 2), 0, -1);
    }

    private static int[] order(ShoeOrchard x, int length) {
        int[] row = new int[length];
        for (int i = 0; i < length; i++) {
            row[i] = x.order(i);
        }
        return row;
    }

    private static void orders() {
        ShoeOrchard x = Check.of(VALLEY + "noon 2 ;");
        Check.due("all", x.order(-1), 4);
        Check.dueRow("row", order(x, 4), 0, 1, 2, 3);
        Check.due("no fifth", x.order(4), -2);
        Check.due("what -2", x.order(-2), -2);
        ShoeOrchard y = Check.of("tree a boot last 4 age 0 ; tree b boot last 6 age 0 ; person p plain feet 5 ; "
                + "person q plain feet 3 ; noon 2 ;");
        Check.due("q goes first", y.order(-1), 2);
        Check.dueRow("row", order(y, 2), 1, 0);
        y.tryOn(0, 0);
        y.undo();
        ShoeOrchard z = Check.of("tree a boot last 9 age 0 ; tree b boot last 4 age 0 ; person p plain feet 4 ; "
                + "person q plain feet 9 ; noon 1 ;");
        Check.due("noon: p must wait till a is gone", z.order(-1), 2);
        Check.dueRow("row", order(z, 2), 1, 0);
        z.tryOn(0, 0);
        Check.due("how often he tried counts", z.order(-1), 1);
        Check.dueRow("row", order(z, 2), 0, 1);
        z.tryOn(1, 0);
        Check.due("those who are not shod", z.order(-1), 0);
        Check.dueRow("row", order(z, 1), 0);
        Check.due("no second", z.order(1), -2);
        Check.due("nothing is done", z.person(0, 3), 1);
    }

    private static void mends() {
        ShoeOrchard x = Check.of("tree a boot last 10 age 0 ; tree b boot last 20 age 0 ; tree c slipper last 6 age 0 ; "
                + "person p plain feet 20 ; person q plain feet 15 ; person r plain feet 12 ; person s plain feet 9 ; "
                + "person t plain feet 30 ; person u plain feet 8 ; pinch 0 ; frost 1 0 ;");
        Check.due("b fits", x.mends(0), 0);
        Check.due("a by b", x.mends(1), 1);
        Check.due("a by b, a by a and b cut: b by a is 15, a by b 12", x.mends(2), 2);
        Check.due("a pruned", x.mends(3), 1);
        Check.due("never", x.mends(4), -1);
        Check.due("a by c", x.mends(5), 1);
        Check.due("nothing is done", x.tree(0, 1), 10);
        Check.due("nothing is done", x.count(11), 0);
        Check.due("person 6", x.mends(6), -1);
        Check.due("person -1", x.mends(-1), -1);
        ShoeOrchard none = Check.of("tree a slipper last 5 age 0 ; person p plain feet 5 ; frost 1 ;");
        Check.due("it does not bear", none.mends(0), -1);
        ShoeOrchard three = Check.of("tree a boot last 9 age 0 ; person p plain feet 7 ; person q plain feet 6 ; pinch 0 ;");
        Check.due("two prunings", three.mends(0), 2);
        Check.due("three prunings", three.mends(1), -1);
        ShoeOrchard zero = Check.of("tree a boot last 0 age 0 ; person p plain feet 8 ; pinch 0 ; bears size + 8 ;");
        Check.due("by E", zero.mends(0), 0);
    }

    private static void when() {
        ShoeOrchard x = Check.of("tree a boot last 30 age 0 ; tree b brogue last 20 age 0 ; person p child feet 0 ; "
                + "person q plain feet 18 ; person r plain feet 0 ; person s plain feet 30 ; pinch 0 ; frost 0 2 ;");
        Check.due("p grows to 16 in 8, b is 16 then", x.when(0), 8);
        Check.due("q's by b, which bears in even years", x.when(1), 4);
        Check.due("r's by b at 0", x.when(2), 40);
        Check.due("now", x.when(3), 0);
        Check.due("person 4", x.when(4), -1);
        Check.due("person -1", x.when(-1), -1);
        Check.due("nothing is done", x.count(4), 0);
        ShoeOrchard late = Check.of("tree a brogue last 21 age 0 ; person p plain feet 0 ; pinch 0 ; frost 0 2 ;");
        Check.due("in 42", late.when(0), -1);
        ShoeOrchard date = Check.of("tree a boot last 0 age 0 ; person p plain feet 30 ; pinch 0 ; bears date ;");
        Check.due("by the date", date.when(0), 30);
        date.year();
        Check.due("by the date", date.when(0), 29);
    }

    private static void later() {
        ShoeOrchard x = Check.of("tree a brogue last 20 age 19 ; tree b boot last 3 age 0 ; frost 0 2 1 ; bears size + years * 0 ;");
        int[] wanted = {20, -1, 19, 19, -1, 18, 18};
        for (int years = 0; years < wanted.length; years++) {
            Check.due("in " + years, x.later(0, years), wanted[years]);
        }
        Check.due("in 40", x.later(1, 40), 3);
        Check.due("in 41", x.later(1, 41), -1);
        Check.due("in -1", x.later(1, -1), -1);
        Check.due("tree 2", x.later(2, 0), -1);
        Check.due("tree -1", x.later(-1, 0), -1);
        Check.due("nothing is done", x.count(4) * 100 + x.tree(0, 1), 20);
        ShoeOrchard y = Check.of("tree a boot last 1 age 2 ; frost 3 1 ; bears size * 9 + years * 3 + chill - date ;");
        Check.due("now", y.later(0, 0), 9 + 6 + 3);
        Check.due("in 1", y.later(0, 1), 9 + 9 + 1 - 1);
        Check.due("in 3", y.later(0, 3), 9 + 15 + 1 - 3);
        Check.due("in 40", y.later(0, 40), 40);
    }

    private static void feeling() {
        ShoeOrchard x = Check.of(VALLEY + "frost 0 1 ;");
        Check.dueRow("nothing felt", new int[] {x.feet(0), x.feet(1), x.feet(2)}, 41, 0, 40);
        Check.due("feel", x.feel(0, true), true);
        Check.dueRow("9 to 11", new int[] {x.feet(0), x.feet(1), x.feet(2)}, 3, 9, 11);
        Check.due("feel", x.feel(2, false), true);
        Check.dueRow("9", new int[] {x.feet(0), x.feet(1), x.feet(2)}, 1, 9, 9);
        Check.due("feel", x.feel(3, true), true);
        Check.dueRow("none", new int[] {x.feet(0), x.feet(1), x.feet(2)}, 0, -1, -1);
        x.prune(0);
        x.undo();
        x.year();
        Check.due("a slipper does not bear", x.feet(0), 0);
        Check.due("what 3", x.feet(3), -1);
        Check.due("what -1", x.feet(-1), -1);
        Check.due("tree 4", x.feel(4, true), false);
        Check.due("tree -1", x.feel(-1, true), false);
        for (int i = 3; i < 8; i++) {
            Check.due("feel", x.feel(2, true), true);
        }
        Check.due("8 at most", x.feel(2, true), false);
        Check.due("felt", x.count(10), 8);
        ShoeOrchard y = Check.of("tree a slipper last 20 age 0 ; frost 0 1 ; pinch 2 ;");
        y.feel(0, true);
        Check.dueRow("18 to 22", new int[] {y.feet(0), y.feet(1), y.feet(2)}, 5, 18, 22);
        y.prune(0);
        Check.dueRow("as all is when it is asked", new int[] {y.feet(0), y.feet(1), y.feet(2)}, 5, 17, 21);
        y.year();
        Check.dueRow("it tells nothing", new int[] {y.feet(0), y.feet(1), y.feet(2)}, 41, 0, 40);
        Check.due("felt without bearing", y.feel(0, false), true);
        Check.due("nothing yet", y.feet(0), 41);
        y.year();
        Check.due("both at once can't be", y.feet(0), 0);
    }

    private static void asking() {
        ShoeOrchard x = Check.of(VALLEY + "frost 0 1 ;");
        Check.due("each fits 3 of 41", x.ask(), 0);
        x.feel(0, true);
        Check.due("11 parts 9 to 11", x.ask(), 2);
        x.year();
        Check.due("a slipper does not bear", x.ask(), -1);
        x.undo();
        x.feel(2, false);
        Check.due("one is left", x.ask(), -1);
        x.feel(1, true);
        Check.due("none is left", x.ask(), -1);
        ShoeOrchard y = Check.of("tree a boot last 0 age 0 ; tree b boot last 20 age 0 ; tree c boot last 10 age 0 ; pinch 5 ;");
        Check.due("11 of 41, the first", y.ask(), 1);
        y.feel(1, true);
        Check.due("15 to 25: c fits one of them", y.ask(), 2);
        Check.due("no trees", new ShoeOrchard().ask(), -1);
        ShoeOrchard z = Check.of("tree a boot last 30 age 10 ; tree b boot last 30 age 8 ; bears size + years ;");
        z.feel(0, true);
        Check.due("b parts 39 from 40", z.ask(), 1);
    }

    private static void pairsIdleSoleTwinsBest() {
        ShoeOrchard x = Check.of(VALLEY + "frost 0 2 3 ;");
        Check.dueRow("valley", all(x), 4, 0, 2, 0, 0);
        x.tryOn(0, 0);
        Check.dueRow("whoever has them", all(x), 4, 0, 2, 0, 0);
        x.year();
        Check.dueRow("ash 14 for bob 15 and dan 12, fir 5 for cid 9", all(x), 1, 0, 14, 0, 1);
        x.year();
        Check.dueRow("ash 14 for dan 12, bob is 17", all(x), 0, 0, 8, 0, 1);
        ShoeOrchard y = Check.of("tree a boot last 5 age 0 ; tree b slipper last 5 age 0 ; tree c boot last 5 age 0 ; "
                + "tree d boot last 9 age 0 ; tree e boot last 20 age 0 ; person p plain feet 9 ; person q plain feet 10 ; "
                + "person r plain feet 5 ; frost 0 1 ;");
        Check.dueRow("y", all(y), 1, 16, 3, 3, 3);
        y.year();
        Check.dueRow("without b", all(y), 1, 16, 3, 1, 3);
        ShoeOrchard none = Check.of("tree a slipper last 5 age 0 ; person p plain feet 5 ; frost 1 ;");
        Check.dueRow("none bears", all(none), 0, 0, 0, 0, -1);
        ShoeOrchard idle = Check.of("tree a boot last 5 age 0 ; tree b boot last 6 age 0 ;");
        Check.dueRow("nobody is there", all(idle), 0, 3, 0, 0, 0);
    }

    private static int[] all(ShoeOrchard x) {
        return new int[] {x.pairs(), x.idle(), x.sole(), x.twins(), x.best()};
    }

    private static void lack() {
        ShoeOrchard x = Check.of("tree a boot last 10 age 0 ; tree b slipper last 16 age 0 ; person p plain feet 13 ; "
                + "person q old feet 13 ; person r hopper feet 25 ; person s plain feet 10 ; pinch 1 ; frost 0 1 ;");
        Check.dueRow("lack", new int[] {x.lack(0), x.lack(1), x.lack(2), x.lack(3)}, 2, 1, 4, 0);
        x.prune(1);
        Check.due("15 is nearer", x.lack(0), 1);
        x.year();
        Check.due("a alone", x.lack(0), 2);
        Check.due("a alone", x.lack(2), 4);
        Check.due("person 4", x.lack(4), -1);
        Check.due("person -1", x.lack(-1), -1);
        ShoeOrchard none = Check.of("tree a slipper last 5 age 0 ; person p plain feet 5 ; frost 1 ;");
        Check.due("none bears", none.lack(0), -1);
    }

    private static void chance() {
        ShoeOrchard x = Check.of("tree a brogue last 10 age 0 ; person p plain feet 8 ; person q plain feet 10 ; pinch 0 ; frost 0 0 0 2 ;");
        Check.due("both cold", x.chance(0, 2, 3), 90000);
        Check.due("no cold", x.chance(1, 2, 3), 490000);
        Check.due("one is told 2 then", x.chance(1, 3, 0), 0);
        Check.due("always", x.chance(0, 2, 10), 1000000);
        Check.due("never", x.chance(0, 2, 0), 0);
        Check.due("one cold can't", x.chance(0, 1, 5), 0);
        Check.due("two of six", x.chance(0, 6, 1), 15 * 6561);
        Check.due("two of five", x.chance(0, 5, 5), 10 * 31250);
        Check.due("years 0", x.chance(0, 0, 5), -1);
        Check.due("years 7", x.chance(0, 7, 5), -1);
        Check.due("odds -1", x.chance(0, 1, -1), -1);
        Check.due("odds 11", x.chance(0, 1, 11), -1);
        Check.due("person 2", x.chance(2, 1, 5), -1);
        Check.due("person -1", x.chance(-1, 1, 5), -1);
        Check.due("nothing is done", x.count(4) * 100 + x.tree(0, 1), 10);
        ShoeOrchard y = Check.of("tree a slipper last 1 age 0 ; tree b boot last 30 age 0 ; person p child feet 28 ; "
                + "person q plain feet 0 ; pinch 0 ;");
        Check.due("a boot stands 3, a child grows", y.chance(0, 1, 7), 1000000);
        Check.due("0 at least", y.chance(1, 3, 5), 875000);
        ShoeOrchard z = Check.of("tree a boot last 0 age 0 ; person p plain feet 9 ; pinch 0 ; frost 1 2 ; bears date * 2 + years * 3 + chill * 2 ;");
        Check.due("date 1, age 1, frost 2", z.chance(0, 1, 5), 1000000);
    }

    private static void rests() {
        ShoeOrchard x = new ShoeOrchard();
        Check.due("two", Check.rests(x, 5, 2, 3, -1), 2);
        Check.due("both keep", Check.rests(x, 5, 2, 3, 0), 0);
        Check.due("both try", Check.rests(x, 5, 2, 3, 1), 3);
        Check.due("no third", Check.rests(x, 5, 2, 3, 2), -99);
        Check.due("keeping alone", Check.rests(x, 3, 2, 5, -1), 1);
        Check.due("keeping alone", Check.rests(x, 3, 2, 5, 0), 0);
        Check.due("all equal", Check.rests(x, 0, 0, 0, -1), 4);
        for (int i = 0; i < 4; i++) {
            Check.due("all equal", Check.rests(x, 0, 0, 0, i), i);
        }
        Check.due("one tries for nothing", Check.rests(x, 1, 0, 2, -1), 3);
        Check.due("one tries for nothing", Check.rests(x, 1, 0, 2, 1), 1);
        Check.due("one tries for nothing", Check.rests(x, 1, 0, 2, 2), 2);
        Check.due("edges", Check.rests(x, 9, 9, 9, -1), 2);
        Check.due("what -2", Check.rests(x, 5, 2, 3, -2), -99);
        Check.due("what far off", Check.rests(x, 5, 2, 3, Integer.MAX_VALUE), -99);
        for (int i = 0; i < 3; i++) {
            Check.due("10", Check.rests(x, i == 0 ? 10 : 1, i == 1 ? 10 : 1, i == 2 ? 10 : 1, -1), -99);
            Check.due("-1", Check.rests(x, i == 0 ? -1 : 1, i == 1 ? -1 : 1, i == 2 ? -1 : 1, -1), -99);
        }
    }

    /** The draws of seed 1 are 16838, 5758, 10113, 17515, 31051, 5627, 23010, 7419, 16212, 4086. */
    private static void ages() {
        ShoeOrchard x = Check.of("tree a boot last 5 age 0 ; tree b boot last 9 age 0 ; tree c brogue last 9 age 0 ; "
                + "person p plain feet 9 ; person q plain feet 9 ; ");
        // 16838 % 2 = 0: p; 5758 % 3 = 1: b fits; 10113 % 6 = 3: nothing more
        Check.due("one step", x.ages(1, 1, 0), 1);
        Check.due("one step", x.ages(1, 1, 1), 0);
        Check.due("one step", x.ages(1, 1, 2), 2);
        // 17515 % 2 = 1: q; 31051 % 3 = 1: b is gone; 5627 % 6 = 5
        Check.due("two steps", x.ages(1, 2, 0), 1);
        // 23010 % 2 = 0: p is shod; 16212 % 6 = 0: the year
        Check.due("three steps", x.ages(1, 3, 0), 1);
        Check.due("three steps", x.ages(1, 3, 1), 1);
        x.tryOn(0, 1);
        Check.due("p is shod already", x.ages(1, 2, 0), 0);
        Check.due("less now", x.ages(1, 2, 2), 0);
        Check.due("nothing is done", x.count(4) * 10 + x.count(11), 1);
        Check.due("99 steps", x.ages(9999, 99, 1) >= 0, true);
        Check.due("what 3", x.ages(1, 1, 3), -1);
        Check.due("what -1", x.ages(1, 1, -1), -1);
        Check.due("steps 0", x.ages(1, 0, 0), -1);
        Check.due("steps 100", x.ages(1, 100, 0), -1);
        Check.due("seed -1", x.ages(-1, 1, 0), -1);
        // the draws of seed 0 begin with 0, 21468, 9988: p, a pinches, 4
        Check.due("seed 0", x.ages(0, 1, 0), 0);
        Check.due("seed 10000", x.ages(10000, 1, 0), -1);
        ShoeOrchard none = Check.of("tree a boot last 5 age 0 ;");
        none.year();
        Check.due("without persons nothing is drawn", none.ages(5, 99, 1), 1);
    }

    private static void marks() {
        ShoeOrchard x = Check.of(VALLEY);
        Check.due("nothing is on it", x.mark(3, true), false);
        x.tryOn(0, 0);
        x.share(0, 3);
        x.feel(0, true);
        Check.due("laid", x.mark(3, false), true);
        Check.due("undo stays", x.count(11), 2);
        x.year();
        x.graft(1, 3);
        x.feel(1, false);
        Check.due("laid", x.mark(0, false), true);
        Check.due("gone back", x.mark(3, true), true);
        Check.due("nothing can be undone", x.undo(), false);
        Check.due("undo", x.count(11), 0);
        Check.dueRow("as it was", new int[] {x.count(4), x.tree(1, 1), x.tree(0, 4), x.person(3, 5), x.person(1, 1),
            x.count(8), x.count(10), x.tree(0, 2), x.person(0, 3)}, 0, 14, 9, 0, 13, 6, 1, 5, 1);
        Check.due("forth", x.mark(0, true), true);
        Check.dueRow("as it was", new int[] {x.count(4), x.tree(1, 1), x.tree(0, 4), x.person(3, 5), x.person(1, 1),
            x.count(8), x.count(10), x.tree(0, 2), x.person(0, 3)}, 1, 9, 0, -1, 15, 6, 2, 6, 0);
        Check.due("once more", x.mark(3, true), true);
        x.prune(1);
        Check.due("laid anew", x.mark(3, false), true);
        x.undo();
        x.mark(3, true);
        Check.due("the new one", x.tree(1, 1), 13);
        Check.tellMorning(x, "year ;");
        x.mark(0, true);
        Check.due("a MORNING is not on it", x.count(9), 1);
        ShoeOrchard y = Check.of("tree a boot last 9 age 0 ;");
        y.mark(0, false);
        y.feel(0, true);
        y.mark(1, false);
        y.mark(0, true);
        y.feel(0, false);
        Check.due("it pinched", y.feet(0), 38);
        y.mark(1, true);
        Check.due("it fitted", y.feet(0), 3);
        Check.due("mark 4", x.mark(4, false), false);
        Check.due("mark -1", x.mark(-1, false), false);
        Check.due("mark 4", x.mark(4, true), false);
        Check.due("mark -1", x.mark(-1, true), false);
    }

    private static void counts() {
        ShoeOrchard x = Check.of(VALLEY + "pinch 2 ; noon 5 ; frost 0 1 ;");
        Check.tellMorning(x, "year ; year ;");
        x.year();
        x.tryOn(0, 0);
        x.tryOn(1, 1);
        x.feel(1, false);
        Check.feed(x, "abc");
        int[] counts = new int[13];
        for (int what = 0; what < 13; what++) {
            counts[what] = x.count(what);
        }
        Check.dueRow("counts", counts, 4, 4, 2, 5, 1, 1, 11, 3, 5, 2, 1, 3, 3);
        Check.due("what 13", x.count(13), -1);
        Check.due("what -1", x.count(-1), -1);
    }
}
