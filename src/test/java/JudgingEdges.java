/** Boundaries of JUDGED ("Terms", promise 14), and of what MORNINGS do by the words of ==== 2. */
final class JudgingEdges {
    private static final String TOLD = "tree a boot last 5 age 0 ; tree b slipper last 9 age 0 ; tree c brogue last 5 age 0 ; "
            + "person p plain feet 5 ; person q plain feet 5 ; person r plain feet 9 ; noon 2 ; frost 0 1 2 ; ";

    private JudgingEdges() {
    }

    static void run() {
        fromTheBegin();
        firstLineThatCannotBe();
        noonOfLines();
        sharesOfLines();
        alwaysCan();
        leftOut();
        firstThatPinches();
        roadOfAll();
        cutsOfLines();
        yearsOfLines();
    }

    private static void judged(String lines, int cannot, int pinched, int road) {
        ShoeOrchard x = Check.of(TOLD);
        Check.due("morning " + lines, Check.tellMorning(x, lines), 0);
        Check.dueRow(lines, new int[] {x.judged(0), x.judged(1), x.judged(2)}, cannot, pinched, road);
    }

    private static void fromTheBegin() {
        Sentence.of("14", "JUDGED: the MORNING from the begin");
        ShoeOrchard x = Check.of(TOLD);
        Check.tellMorning(x, "try p b ; try p a ; year ; try p c ;");
        int[] due = {-1, 0, 5};
        for (int i = 0; i < 6; i++) {
            Check.dueRow("after " + i, new int[] {x.judged(0), x.judged(1), x.judged(2)}, due);
            switch (i) {
                case 0 -> x.tryOn(0, 0);
                case 1 -> x.share(0, 1);
                case 2 -> x.graft(0, 1);
                case 3 -> x.prune(2);
                default -> x.year();
            }
        }
        Check.due("nothing is done by it", x.count(11), 6);
        Check.due("nor to the year", x.count(4), 2);
    }

    private static void firstLineThatCannotBe() {
        Sentence.of("14", "the first line (from 0) that can't be");
        judged("", -1, -1, 0);
        judged("try p a ;", -1, -1, 2);
        judged("try p a ; try p c ;", 1, -1, 2);
        judged("share p q ;", 0, -1, 0);
        judged("share p q ; try p a ; share p q ; share p r ; share q r ;", 0, -1, 4);
        judged("try p a ; try q a ;", 1, -1, 2);
        judged("year ; try r b ;", 1, -1, 0);
        judged("year ; ".repeat(39) + "share p q ;", 39, -1, 0);
        judged("year ; ".repeat(39) + "try p a ;", -1, -1, 2);
    }

    private static void noonOfLines() {
        Sentence.of("14", "has tried less often than noon");
        judged("try p b ; try p a ;", -1, 0, 2);
        judged("try p b ; try p b ; try p a ;", 2, 0, 0);
        judged("try p b ; try p b ; year ; try p a ;", -1, 0, 2);
        judged("try p b ; try q b ; try p a ; try q c ;", -1, 0, 5);
    }

    private static void sharesOfLines() {
        Sentence.of("14", "SHARE: one who is SHOD, and shares with nobody, with another one who is not, if that pair FITS this one, too");
        judged("try p a ; share p q ;", -1, -1, 4);
        judged("try p a ; share q p ;", 1, -1, 2);
        judged("try p a ; share p r ;", 1, -1, 2);
        judged("try p a ; try q c ; share p q ;", 2, -1, 5);
        judged("try p c ; share p q ; share p r ;", 2, -1, 6);
        judged("try p a ; year ; share p q ;", 2, -1, 2);
        judged("try r b ; graft b a ; graft b a ; share r p ;", -1, -1, 0);
        judged("try r b ; graft b a ; share r p ;", 2, -1, 0);
    }

    private static void alwaysCan() {
        Sentence.of("14", "(graft, prune, year always can; lines that can't be are left out)");
        judged("graft a b ; graft b a ; prune a ; prune b ; year ; year ; prune c ;", -1, -1, 0);
        judged("prune a ; ".repeat(7) + "year ;", -1, -1, 0);
        judged("graft a c ; graft c a ; try p a ;", -1, -1, 2);
    }

    private static void leftOut() {
        Sentence.of("14", "lines that can't be are left out");
        judged("share p q ; try p a ; share p q ;", 0, -1, 4);
        judged("try p a ; try p b ; try q c ;", 1, -1, 5);
        judged("try p a ; try q a ; try q a ; try q c ;", 1, -1, 5);
    }

    private static void firstThatPinches() {
        Sentence.of("14", "the first line at which one tried what does not FIT");
        judged("try p b ;", -1, 0, 0);
        judged("try p a ; try r c ;", -1, 1, 2);
        judged("try p a ; try r a ;", 1, -1, 2);
        judged("try p a ; try p b ; try r c ; try r b ;", 1, 2, 2);
        judged("year ; ".repeat(39) + "try r a ;", -1, 39, 0);
        judged("year ; ".repeat(38) + "try r a ; year ;", -1, 38, 0);
        judged("share p r ; year ;", 0, -1, 0);
    }

    private static void roadOfAll() {
        Sentence.of("14", "road of all at last");
        judged("try p c ; share p q ; try r b ;", -1, -1, 6);
        judged("try p c ; share p q ; year ; try p a ; try q c ;", -1, -1, 11);
        judged("year ; try p a ; year ; try q a ; try p c ;", 4, -1, 4);
        judged("try p a ; share p q ; year ; year ; year ; ".repeat(8), -1, -1, 32);
        judged("try p c ; share p q ; year ; year ; year ; ".repeat(3), 11, 10, 12);
    }

    private static void cutsOfLines() {
        Sentence.of("14", "the half of its own and another one's together, cut. PRUNE: its last is 1 less, 0 at least");
        ShoeOrchard x = Check.of("tree a boot last 1 age 0 ; tree b boot last 4 age 0 ; person p plain feet 0 ; person q plain feet 2 ; "
                + "person r plain feet 3 ; pinch 0 ; bears size ;");
        int[][] due = {{-1, 2}, {1, 0}, {-1, 2}, {1, 0}, {-1, 2}};
        String[] lines = {"graft a b ; try q a ;", "graft a b ; try r a ;", "prune a ; try p a ;", "prune a ; try q a ;",
            "prune a ; prune a ; try p a ;"};
        for (int i = 0; i < lines.length; i++) {
            Check.tellMorning(x, lines[i]);
            Check.dueRow(lines[i], new int[] {x.judged(1), x.judged(2)}, due[i]);
        }
        ShoeOrchard y = Check.of("tree a boot last 1 age 0 ; person p plain feet 10 ; pinch 0 ; bears 10 - size ;");
        Check.tellMorning(y, "prune a ; prune a ; try p a ;");
        Check.due("0 at least", y.judged(2), 2);
    }

    private static void yearsOfLines() {
        Sentence.of("14", "YEAR: each TREE that does not BEAR has its last 1 less (0 at least)");
        ShoeOrchard x = Check.of("tree a slipper last 2 age 20 ; tree b boot last 0 age 0 ; person p plain feet 10 ; person q child feet 30 ; "
                + "pinch 0 ; frost 1 1 1 0 ; bears 10 - size + ( 59 < years ) * 30 ;");
        int[] pinched = {1, 2, -1};
        for (int years = 1; years <= 3; years++) {
            Check.tellMorning(x, "year ; ".repeat(years) + "try p a ;");
            Check.due("last of year " + years, x.judged(years == 3 ? 1 : 0), years == 3 ? -1 : pinched[years - 1]);
        }
        Check.tellMorning(x, "year ; ".repeat(39) + "try p a ;");
        Check.due("39 years, 59 old", x.judged(1), -1);
        ShoeOrchard y = Check.of("tree a boot last 0 age 0 ; person q child feet 29 ; pinch 0 ; bears 40 ;");
        for (int years = 4; years <= 8; years++) {
            Check.tellMorning(y, "year ; ".repeat(years) + "try q a ;");
            Check.due("40 feet at most, in " + years, y.judged(1), years >= 6 ? -1 : years);
        }
    }
}
