/** Boundaries of FELT, FEET and ASK ("Terms", ==== 3., promises 23 to 25, and 36 by count(10)). */
final class GuessingEdges {
    private GuessingEdges() {
    }

    static void run() {
        feetNoughtToForty();
        plainOnes();
        eightAtMost();
        asAllIsWhenAsked();
        allThatIsFelt();
        none();
        askNoughtToForty();
        askTheLeast();
        askLessThanAll();
        askTheFirst();
    }

    private static void feet(String what, ShoeOrchard x, int number, int least, int greatest) {
        Check.dueRow(what, new int[] {x.feet(0), x.feet(1), x.feet(2)}, number, least, greatest);
    }

    /** A boot whose SIZE is told by bears, with a pinch. */
    private static ShoeOrchard size(int size, int pinch) {
        return Check.of("tree a boot last 0 age 0 ; pinch " + pinch + " ; bears " + size + " ;");
    }

    private static void feetNoughtToForty() {
        Sentence.of("24", "an unknown plain PERSON (feet 0 to 40)");
        feet("nothing FELT", new ShoeOrchard(), 41, 0, 40);
        for (int pinch = 0; pinch <= 5; pinch++) {
            for (int size = 0; size <= 40; size++) {
                ShoeOrchard x = size(size, pinch);
                x.feel(0, true);
                int least = Math.max(0, size - pinch);
                int greatest = Math.min(40, size + pinch);
                feet("FITTED by " + size + ", " + pinch, x, greatest - least + 1, least, greatest);
                ShoeOrchard y = size(size, pinch);
                y.feel(0, false);
                feet("pinched by " + size + ", " + pinch, y, 40 - (greatest - least), least == 0 ? greatest + 1 : 0,
                        greatest == 40 ? least - 1 : 40);
            }
        }
    }

    private static void plainOnes() {
        Sentence.of("24", "an unknown plain PERSON");
        ShoeOrchard x = Check.of("tree a boot last 10 age 0 ; person p old feet 10 ; person q hopper feet 20 ; person r child feet 10 ; pinch 0 ;");
        x.feel(0, true);
        feet("neither old nor a hopper", x, 1, 10, 10);
    }

    private static void eightAtMost() {
        Sentence.of("23 36", "8 at most");
        ShoeOrchard x = Check.of("tree a boot last 10 age 0 ; tree b boot last 11 age 0 ; pinch 5 ;");
        for (int felt = 0; felt < 12; felt++) {
            Check.due("FELT", x.count(10), Math.min(8, felt));
            boolean fitted = felt != 7;
            Check.due("feel " + felt, x.feel(felt == 7 ? 1 : 0, fitted), felt < 8);
            feet("after " + felt, x, felt < 7 ? 11 : 1, 5, felt < 7 ? 15 : 5);
        }
        Check.due("no TREE, and 8", x.feel(2, true), false);
        Check.due("FELT", x.count(10), 8);
    }

    private static void asAllIsWhenAsked() {
        Sentence.of("23-25", "was FITTED by a TREE that BEARS, or pinched, as all is when it is asked");
        ShoeOrchard x = Check.of("tree a slipper last 20 age 0 ; tree b boot last 24 age 0 ; pinch 2 ; frost 0 1 0 ;");
        x.feel(0, true);
        feet("20", x, 5, 18, 22);
        Check.due("b parts 22 from 18 to 21", x.ask(), 1);
        x.prune(0);
        feet("19", x, 5, 17, 21);
        Check.due("b parts nothing", x.ask(), -1);
        x.graft(0, 1);
        feet("21", x, 5, 19, 23);
        Check.due("b parts 22 and 23", x.ask(), 1);
        x.undo();
        x.undo();
        feet("20 again", x, 5, 18, 22);
        x.year();
        feet("it tells nothing", x, 41, 0, 40);
        Check.due("b parts all", x.ask(), 1);
        Check.due("of a TREE that does not BEAR now", x.feel(0, true), true);
        feet("it tells nothing", x, 41, 0, 40);
        x.year();
        feet("19", x, 5, 17, 21);
        Check.due("two", x.count(10), 2);
    }

    private static void allThatIsFelt() {
        Sentence.of("24", "FEET by which all FELT is so: how many; the least; the greatest");
        ShoeOrchard x = Check.of("tree a boot last 10 age 0 ; tree b boot last 13 age 0 ; tree c boot last 8 age 0 ; pinch 2 ;");
        x.feel(0, true);
        feet("8 to 12", x, 5, 8, 12);
        x.feel(1, false);
        feet("8 to 10", x, 3, 8, 10);
        x.feel(2, true);
        feet("8 to 10 still", x, 3, 8, 10);
        x.prune(2);
        feet("8 and 9", x, 2, 8, 9);
        x.prune(1);
        feet("8 and 9 still", x, 2, 8, 9);
        x.prune(1);
        feet("8 alone", x, 1, 8, 8);
        x.prune(1);
        feet("none", x, 0, -1, -1);
        ShoeOrchard hole = size(20, 5);
        hole.feel(0, false);
        feet("0 to 14 and 26 to 40", hole, 30, 0, 40);
    }

    private static void none() {
        Sentence.of("24", "NONE: others, none (but 0)");
        ShoeOrchard x = size(20, 5);
        x.feel(0, true);
        x.feel(0, false);
        feet("none", x, 0, -1, -1);
        for (int what : new int[] {Integer.MIN_VALUE, -2, -1, 3, 4, Integer.MAX_VALUE}) {
            Check.due("what " + what, x.feet(what), -1);
            Check.due("what " + what, new ShoeOrchard().feet(what), -1);
        }
    }

    private static void askNoughtToForty() {
        Sentence.of("25", "an unknown plain PERSON (feet 0 to 40)");
        ShoeOrchard low = Check.of("tree a boot last 0 age 0 ; tree b boot last 2 age 0 ; pinch 1 ;");
        low.feel(0, true);
        feet("0 and 1", low, 2, 0, 1);
        Check.due("b parts 0 from 1", low.ask(), 1);
        ShoeOrchard high = Check.of("tree a boot last 30 age 0 ; tree b boot last 28 age 0 ; pinch 1 ; bears size + 10 ;");
        high.feel(0, true);
        feet("39 and 40", high, 2, 39, 40);
        Check.due("b parts 40 from 39", high.ask(), 1);
        ShoeOrchard ends = Check.of("tree a boot last 0 age 0 ; tree b boot last 30 age 0 ; pinch 0 ; bears size + ( size = 30 ) * 10 ;");
        Check.due("0 from all others, as 40 is", ends.ask(), 0);
        ends.feel(0, false);
        Check.due("40 from all others", ends.ask(), 1);
    }

    /** Boots by lasts, with pinch 5, of which the first (20) was FITTED: 15 to 25 are left. */
    private static void asks(int due, int... lasts) {
        StringBuilder text = new StringBuilder("tree ta boot last 20 age 0 ; pinch 5 ; ");
        for (int i = 0; i < lasts.length; i++) {
            text.append("tree t").append((char) ('b' + i)).append(" boot last ").append(lasts[i]).append(" age 0 ; ");
        }
        ShoeOrchard x = Check.of(text.toString());
        x.feel(0, true);
        Check.due("11 are left", x.feet(0), 11);
        Check.due("ask of " + text, x.ask(), due);
    }

    private static void askTheLeast() {
        Sentence.of("25", "ASK: the TREE that BEARS by which the greater number of these that it FITS, or does not, is the least");
        asks(1, 15, 14);
        asks(1, 15, 16);
        asks(2, 16, 15);
        asks(2, 13, 14);
        asks(2, 17, 16);
        asks(3, 10, 11, 12);
        asks(1, 12, 11, 10);
        asks(2, 30, 29);
        asks(3, 18, 12, 14, 16);
    }

    private static void askLessThanAll() {
        Sentence.of("25", "if that is less than all");
        asks(-1);
        asks(-1, 20);
        asks(-1, 9);
        asks(1, 10);
        asks(1, 11);
        asks(-1, 0);
        asks(1, 30);
        asks(1, 19);
        asks(1, 21);
        ShoeOrchard x = size(20, 0);
        Check.due("one of 41", x.ask(), 0);
        x.feel(0, false);
        Check.due("none of 40", x.ask(), -1);
        x.feel(0, true);
        Check.due("none is left", x.ask(), -1);
        ShoeOrchard one = size(20, 0);
        one.feel(0, true);
        Check.due("one is left", one.ask(), -1);
        Check.due("no TREES", new ShoeOrchard().ask(), -1);
        ShoeOrchard cold = Check.of("tree a slipper last 5 age 0 ; frost 1 ;");
        Check.due("none BEARS", cold.ask(), -1);
    }

    private static void askTheFirst() {
        Sentence.of("25", "if that is less than all; of equal ones the first");
        asks(1, 14, 26);
        asks(1, 26, 14);
        asks(1, 15, 15);
        asks(1, 10, 30, 10);
        asks(2, 20, 10, 30);
        asks(2, 9, 10, 30);
    }
}
