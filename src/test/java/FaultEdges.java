/** Boundaries of FAULTS, and of what is there without one ("Terms", promises 3 and 4). */
final class FaultEdges {
    private static final String TOLD = "tree tt boot last 1 age 1 ; tree uu boot last 1 age 1 ; "
            + "person pp old feet 1 ; person qq old feet 1 ; ";

    private FaultEdges() {
    }

    static void run() {
        places();
        theEnd();
        firstFromTheLeft();
        theLeast();
        kind1();
        kind2();
        kind3Names();
        kind3Same();
        kind3Lines();
        kind4();
        kind5Words();
        kind5Parts();
        orchardFromThenOn();
        nothingIsLeft();
        orchardStays();
        allAnswersStay();
        morningIsTheMorning();
        morningStays();
        atFirst();
    }

    private static void places() {
        Sentence.of("3 4", "kind + 16 * the place (from 0) of a token");
        for (int before = 0; before <= 40; before++) {
            String blanks = (before % 2 == 0 ? " " : "\n").repeat(before);
            Check.due("; at " + before, Check.tell(new ShoeOrchard(), blanks + ";"), 1 + 16 * before);
            Check.due("; at " + before, Check.tellMorning(new ShoeOrchard(), blanks + "; year"), 1 + 16 * before);
            Check.due("noon 7 behind " + before, Check.tell(new ShoeOrchard(), blanks + "noon 7 ;"), 4 + 16 * (before + 5));
            Check.due("prune x behind " + before, Check.tellMorning(new ShoeOrchard(), blanks + "prune x ;"), 2 + 16 * (before + 6));
        }
        Check.due("the last place", Check.tell(new ShoeOrchard(), " ".repeat(999) + ";"), 1 + 16 * 999);
    }

    private static void theEnd() {
        Sentence.of("3 4", "the end being one at the text's length");
        Check.orchardFault(1, "noon^");
        Check.orchardFault(1, "noon ^");
        Check.orchardFault(1, "noon\n\n^");
        Check.orchardFault(1, "noon 2^");
        Check.orchardFault(1, "noon 2  ^");
        Check.orchardFault(0, "noon 2;");
        Check.orchardFault(0, "noon 2;  ");
        Check.orchardFault(1, "bears 1 + ^");
        Check.orchardFault(1, "frost 1 2 3^");
        Check.orchardFault(1, "tree a boot last^");
        Check.morningFault(1, "", "year^");
        Check.morningFault(1, "", "year \n ^");
        Check.morningFault(0, "", "year; \n ");
        Check.morningFault(1, TOLD, "try^");
        Check.morningFault(1, TOLD, "try pp^");
        Check.morningFault(1, TOLD, "try pp tt ^");
        Check.due("the end of a full TAPE", Check.tell(new ShoeOrchard(), "noon" + " ".repeat(996)), 1 + 16 * 1000);
        Check.due("the end of a full TAPE", Check.tellMorning(new ShoeOrchard(), "year" + "\n".repeat(996)), 1 + 16 * 1000);
    }

    private static void firstFromTheLeft() {
        Sentence.of("3 4", "of the first token from the left that is wrong the least");
        Check.orchardFault(4, "noon ^7 7 ;");
        Check.orchardFault(4, "noon ^0 ; ; noon noon");
        Check.orchardFault(4, "tree a boot last ^31 age 21 ; tree a ; !");
        Check.orchardFault(3, "noon 1 ; ^noon 9 ; 12345");
        Check.orchardFault(5, LanguageEdges.trees(6) + "^tree ta boot last 31 age 31 ;");
        Check.orchardFault(1, "bears 1 ^1 ; noon 9 ;");
        Check.morningFault(2, TOLD, "try ^xx xx ; ; share pp pp ;");
        Check.morningFault(2, TOLD, "share ^xx xx ;");
        Check.morningFault(3, TOLD, "share pp ^pp pp pp ;");
        Check.morningFault(2, TOLD, "graft ^pp pp ;");
        Check.morningFault(1, TOLD, "try pp tt ^! try pp xx ;");
    }

    private static void theLeast() {
        Sentence.of("3 4", "that is wrong the least");
        String twelve = "frost 0 1 2 3 0 1 2 3 0 1 2 3 ";
        Check.orchardFault(5, twelve + "^3 ;");
        Check.orchardFault(4, twelve + "^4 ;");
        Check.orchardFault(4, twelve + "^9999 ;");
        Check.orchardFault(1, twelve + "^10000 ;");
        Check.orchardFault(1, twelve + "^noon ;");
        Check.orchardFault(0, twelve + ";");
        String forty = "year;".repeat(40);
        Check.morningFault(5, TOLD, forty + "^year;");
        Check.morningFault(5, TOLD, forty + "^try xx xx;");
        Check.morningFault(1, TOLD, forty + "^tree;");
        Check.morningFault(1, TOLD, forty + "^abcdefghi;");
        Check.morningFault(1, TOLD, forty + "^;");
        Check.morningFault(1, TOLD, forty + "^41;");
        Check.orchardFault(5, "bears not not not not not ^not ;");
        Check.orchardFault(5, "bears not not not not not ^( ;");
        Check.orchardFault(1, "bears not not not not not ^) ;");
        Check.orchardFault(1, "bears not not not not not ^and ;");
        Check.orchardFault(1, "bears not not not not not ^");
    }

    private static void kind1() {
        Sentence.of("3 4", "1 it is none, or can't stand there");
        Check.orchardFault(1, "^try pp tt ;");
        Check.orchardFault(1, "^year ;");
        Check.orchardFault(1, "^oak ;");
        Check.orchardFault(1, "^1 ;");
        Check.orchardFault(1, "^( noon 1 ) ;");
        Check.orchardFault(1, "tree a boot ^age 1 last 1 ;");
        Check.orchardFault(1, "tree a boot last 1 ^feet 1 ;");
        Check.orchardFault(1, "tree a boot last 1 age 1 ^age 1 ;");
        Check.orchardFault(1, "person a old ^last 1 ;");
        Check.orchardFault(1, "pinch ^; noon 1 ;");
        Check.orchardFault(1, "pinch ^- 1 ;");
        Check.orchardFault(1, "frost 1 ^, 2 ;");
        Check.orchardFault(1, "frost 1 ^- 2 ;");
        Check.morningFault(1, TOLD, "^tree ;");
        Check.morningFault(1, TOLD, "^noon 1 ;");
        Check.morningFault(1, TOLD, "^pp ;");
        Check.morningFault(1, TOLD, "try ^; pp tt ;");
        Check.morningFault(1, TOLD, "try ^1 tt ;");
        Check.morningFault(1, TOLD, "try pp ^( tt ) ;");
        Check.morningFault(1, TOLD, "year ^year ;");
    }

    private static void kind2() {
        Sentence.of("4", "2 a NAME of no PERSON (behind try, share, its second), of no TREE "
                + "(the second of try, behind graft, its second, behind prune) told");
        for (String other : "x pq ppp p tu size date".split(" ")) {
            Check.morningFault(2, TOLD, "try ^" + other + " tt ;");
            Check.morningFault(2, TOLD, "try pp ^" + other + " ;");
            Check.morningFault(2, TOLD, "share ^" + other + " pp ;");
            Check.morningFault(2, TOLD, "share pp ^" + other + " ;");
            Check.morningFault(2, TOLD, "graft ^" + other + " tt ;");
            Check.morningFault(2, TOLD, "graft tt ^" + other + " ;");
            Check.morningFault(2, TOLD, "prune ^" + other + " ;");
        }
        Check.morningFault(2, "", "try ^pp tt ;");
        ShoeOrchard x = Check.of(TOLD);
        Check.tell(x, "tree zz boot last 1 age 1 ;");
        Check.due("of an ORCHARD that is no more", Check.tellMorning(x, "prune tt ;"), 2 + 16 * 6);
        Check.due("of the ORCHARD", Check.tellMorning(x, "prune zz ;"), 0);
        Check.tell(x, "tree yy boot last 1 age 1 ; !");
        Check.due("of one with a FAULT", Check.tellMorning(x, "prune yy ;"), 2 + 16 * 6);
        Check.due("of the ORCHARD still", Check.tellMorning(x, "prune zz ;"), 0);
    }

    private static void kind3Names() {
        Sentence.of("3", "3 a NAME told already");
        Check.orchardFault(3, TOLD + "tree ^tt boot");
        Check.orchardFault(3, TOLD + "tree ^uu");
        Check.orchardFault(3, TOLD + "tree ^qq");
        Check.orchardFault(3, TOLD + "person ^pp");
        Check.orchardFault(3, TOLD + "person ^uu");
        Check.orchardFault(0, TOLD + "tree ttt boot last 1 age 1 ; person p old feet 1 ;");
    }

    private static void kind3Same() {
        Sentence.of("4", "the second one of share, graft that is the first one");
        Check.morningFault(3, TOLD, "share pp ^pp ;");
        Check.morningFault(3, TOLD, "share qq ^qq ;");
        Check.morningFault(3, TOLD, "graft tt ^tt ;");
        Check.morningFault(3, TOLD, "graft uu ^uu ;");
        Check.morningFault(0, TOLD, "share pp qq ; share qq pp ; graft tt uu ; graft uu tt ; try pp tt ; try pp tt ; prune tt ; prune tt ;");
    }

    private static void kind3Lines() {
        Sentence.of("3", "pinch, noon, frost, bears a second time");
        Check.orchardFault(3, "pinch 1 ; ^pinch 9 ;");
        Check.orchardFault(3, "noon 1 ; pinch 1 ; ^noon ;");
        Check.orchardFault(3, "frost 1 2 ; ^frost 3 ;");
        Check.orchardFault(3, "bears 1 ; ^bears 1 ;");
        Check.orchardFault(1, "pinch ^pinch 1 ;");
        Check.orchardFault(1, "frost 1 ^frost 1 ;");
    }

    private static void kind4() {
        Sentence.of("3", "4 a NUMBER that is not as told");
        Check.orchardFault(0, "tree a boot last 30 age 20 ; person b old feet 30 ; pinch 5 ; noon 6 ; frost 3 ;");
        Check.orchardFault(4, "tree a boot last ^31 age 20 ;");
        Check.orchardFault(4, "tree a boot last 30 age ^21 ;");
        Check.orchardFault(4, "person b old feet ^31 ;");
        Check.orchardFault(4, "pinch ^6 ;");
        Check.orchardFault(4, "noon ^7 ;");
        Check.orchardFault(4, "noon ^0 ;");
        Check.orchardFault(4, "noon ^0000 ;");
        Check.orchardFault(4, "frost 3 ^4 3 ;");
        Check.orchardFault(0, "bears 9999 ;");
    }

    private static void kind5Words() {
        Sentence.of("3 4", "5 one too many: the words tree of a seventh, person of a seventh, a thirteenth NUMBER of frost, "
                + "the first word of a 41st line of a MORNING");
        String six = LanguageEdges.trees(6);
        Check.orchardFault(0, six);
        Check.orchardFault(5, six + "^tree tg boot last 1 age 1 ;");
        Check.orchardFault(5, six + "^tree");
        String persons = LanguageEdges.persons(6);
        Check.orchardFault(0, persons);
        Check.orchardFault(5, persons + "^person pg old feet 1 ;");
        Check.orchardFault(5, persons + "^person");
        Check.orchardFault(0, "frost 1 1 1 1 1 1 1 1 1 1 1 1 ;");
        Check.orchardFault(5, "frost 1 1 1 1 1 1 1 1 1 1 1 1 ^1 ;");
        Check.orchardFault(5, "frost 1 1 1 1 1 1 1 1 1 1 1 1 ^1 1");
        for (String line : "try pp tt;,share pp qq;,graft tt uu;,prune tt;,year;".split(",")) {
            Check.morningFault(0, TOLD, line.repeat(39));
            Check.morningFault(0, TOLD, line.repeat(40));
            Check.morningFault(5, TOLD, line.repeat(40) + "^" + line);
        }
    }

    private static void kind5Parts() {
        Sentence.of("3", "not, or a PART, within 5 others");
        Check.orchardFault(0, "bears not not not not 1 ;");
        Check.orchardFault(5, "bears not not not not not ^1 ;");
        Check.orchardFault(5, "bears not not not not not ^not 1 ;");
        Check.orchardFault(0, "bears ( ( ( ( 1 ) ) ) ) ;");
        Check.orchardFault(5, "bears ( ( ( ( ( ^1 ) ) ) ) ) ;");
        Check.orchardFault(5, "bears ( ( ( ( ( ^( 1 ) ) ) ) ) ) ;");
        Check.orchardFault(5, "bears ( ( ( ( ( ^not 1 ) ) ) ) ) ;");
        Check.orchardFault(0, "bears ( not ( not 1 ) + 1 ) ;");
        Check.orchardFault(5, "bears ( not ( not ( ^1 + 2 ) ) ) ;");
    }

    /** An object of which all has been used. */
    static ShoeOrchard used() {
        ShoeOrchard x = Check.of("tree a boot last 9 age 3 ; tree b slipper last 4 age 2 ; person p child feet 9 ; person q plain feet 9 ; "
                + "pinch 2 ; noon 2 ; frost 1 2 ; bears size + 1 ;");
        Check.tellMorning(x, "try p a ; year ; year ;");
        x.tryOn(0, 0);
        x.year();
        x.tryOn(1, 0);
        x.share(1, 0);
        x.graft(0, 1);
        x.undo();
        x.feel(0, true);
        x.mark(0, false);
        x.mark(3, false);
        return x;
    }

    private static int[] counts(ShoeOrchard x) {
        int[] counts = new int[13];
        for (int what = 0; what < 13; what++) {
            counts[what] = x.count(what);
        }
        return counts;
    }

    private static void orchardFromThenOn() {
        Sentence.of("3 36", "Without a FAULT an ORCHARD is the ORCHARD from then on: year 0, nobody has tried, is SHOD, "
                + "lasts, ages, feet as told, no road gone, no MORNING, nothing FELT, nothing can be undone, no MARK is there");
        ShoeOrchard x = used();
        Check.dueRow("before", counts(x), 2, 2, 2, 2, 1, 2, 1, 3, 6, 3, 1, 4, 0);
        Check.tell(x, "tree a boot last 8 age 4 ; person p child feet 7 ;");
        Check.dueRow("then", counts(x), 1, 1, 1, 3, 0, 0, 1, 0, 0, 0, 0, 0, 0);
        Check.dueRow("the TREE", new int[] {x.tree(0, 0), x.tree(0, 1), x.tree(0, 2), x.tree(0, 3), x.tree(0, 4)}, 1, 8, 4, 8, 0);
        Check.dueRow("the PERSON", new int[] {x.person(0, 0), x.person(0, 1), x.person(0, 2), x.person(0, 3), x.person(0, 4),
            x.person(0, 5)}, 1, 7, -1, 0, 0, -1);
        Check.due("no other TREE", x.tree(1, 0), -2);
        Check.due("no other PERSON", x.person(1, 0), -2);
        Check.due("nothing can be undone", x.undo(), false);
        for (int mark = 0; mark < 4; mark++) {
            Check.due("no MARK", x.mark(mark, true), false);
        }
        Check.due("no MORNING", x.judged(2), 0);
        Check.due("nothing FELT", x.feet(0), 41);
        ShoeOrchard empty = used();
        Check.due("an empty one", empty.orchard(), 0);
        Check.dueRow("nothing", counts(empty), 0, 0, 1, 3, 0, 0, 0, 0, 0, 0, 0, 0, 0);
    }

    /** What an object answers to all that can be asked. */
    private static String answers(ShoeOrchard x) {
        StringBuilder text = new StringBuilder();
        for (int i = -1; i <= 6; i++) {
            int[] row = {x.tree(i, 3), x.tree(i, 4), x.person(i, 1), x.person(i, 2), x.person(i, 5), x.fitted(i), x.wearers(i), x.shoes(i),
                x.roads(i), x.order(i), x.mends(i), x.when(i), x.later(i, 3), x.lack(i), x.chance(i, 3, 5)};
            text.append(java.util.Arrays.toString(row));
        }
        for (int what = 0; what < 3; what++) {
            text.append(x.judged(what)).append(' ').append(x.feet(what)).append(' ').append(x.ages(3, 50, what)).append(' ');
        }
        int[] row = {x.ask(), x.pairs(), x.idle(), x.sole(), x.twins(), x.best()};
        return text.append(java.util.Arrays.toString(row)).append(java.util.Arrays.toString(counts(x))).toString();
    }

    /** An object whose ORCHARD is as great as can be, of which all has been asked and much been done. */
    private static ShoeOrchard greatest() {
        ShoeOrchard x = Check.of(LanguageEdges.trees(6) + LanguageEdges.persons(6) + "noon 1 ; pinch 5 ; frost 1 2 3 ; bears size + date ;");
        Check.tellMorning(x, "year ; try pa ta ;");
        answers(x);
        x.tryOn(5, 5);
        x.tryOn(4, 4);
        x.share(5, 3);
        x.feel(5, true);
        x.feel(4, false);
        x.mark(3, false);
        return x;
    }

    private static void nothingIsLeft() {
        Sentence.of("3 5-7 14-36", "Without a FAULT an ORCHARD is the ORCHARD from then on");
        for (int trees = 0; trees <= 6; trees++) {
            for (int persons = 0; persons <= 6; persons++) {
                String text = LanguageEdges.trees(trees).replace("boot", "sandal") + LanguageEdges.persons(persons).replace("old", "plain") + "pinch 0 ;";
                ShoeOrchard x = greatest();
                Check.due("told", Check.tell(x, text), 0);
                Check.due(trees + " TREES, " + persons + " PERSONS as of a new object", answers(x).equals(answers(Check.of(text))), true);
            }
        }
    }

    private static void allAnswersStay() {
        Sentence.of("3 4 5-7 14-36", "0, or its FAULT (all stays then)");
        String greatest = LanguageEdges.trees(6) + LanguageEdges.persons(6) + "noon 6 ; pinch 4 ; frost 3 ; bears 7 ; ";
        for (int trees = 0; trees <= 6; trees += 2) {
            ShoeOrchard x = Check.of(LanguageEdges.trees(trees) + LanguageEdges.persons(trees));
            Check.tellMorning(x, "year ; year ;");
            x.tryOn(0, 0);
            x.feel(0, true);
            String before = answers(x);
            Check.due("a FAULT at last", Check.tell(x, greatest + ";"), 1 + 16 * greatest.length());
            Check.due("the ORCHARD", answers(x).equals(before), true);
            Check.due("a FAULT at last", Check.tellMorning(x, "year ; year ; year ; year"), 1 + 16 * 25);
            Check.due("the MORNING", answers(x).equals(before), true);
        }
    }

    private static void orchardStays() {
        Sentence.of("3 36", "0, or its FAULT (all stays then)");
        ShoeOrchard x = used();
        int[] before = counts(x);
        for (String wrong : new String[] {";", "noon 7 ;", "noon 1 ; noon 1 ;", "tree c boot last 1 age 1 ; person r old feet 1", "noon",
            "pinch 0 ; noon 1 ; frost 3 ; bears 0 ; " + LanguageEdges.trees(7)}) {
            Check.due("a FAULT of " + wrong, Check.tell(x, wrong) != 0, true);
            Check.dueRow("stays", counts(x), before);
            Check.dueRow("stays", new int[] {x.tree(0, 3), x.tree(1, 1), x.person(0, 1), x.person(0, 5), x.judged(2)}, 10, 3, 11, 1, 2);
        }
        Check.due("names stay", Check.tellMorning(x, "try p a ; year ; year ;"), 0);
        Check.due("marks stay", x.mark(3, true), true);
        Check.due("no other one", x.mark(1, true), false);
    }

    private static void morningIsTheMorning() {
        Sentence.of("4 14 36", "A MORNING is the MORNING.");
        ShoeOrchard x = used();
        int[] before = counts(x);
        Check.due("another one", Check.tellMorning(x, "year ; try q a ;"), 0);
        before[9] = 2;
        Check.dueRow("all else stays", counts(x), before);
        Check.due("judged", x.judged(1), -1);
        Check.due("it can be undone as before", x.undo(), true);
        Check.due("an empty one", x.morning(), 0);
        Check.due("no lines", x.count(9), 0);
        Check.due("judged", x.judged(2), 0);
    }

    private static void morningStays() {
        Sentence.of("4 14", "The TAPE is read as a MORNING, likewise.");
        ShoeOrchard x = used();
        int[] before = counts(x);
        for (String wrong : new String[] {";", "year", "year ; year", "year ; prune c ;", "share p p ;", "year;".repeat(41), "year 12345"}) {
            Check.due("a FAULT of " + wrong, Check.tellMorning(x, wrong) != 0, true);
            Check.dueRow("stays", counts(x), before);
            Check.due("judged stays", x.judged(2), 2);
        }
    }

    private static void atFirst() {
        Sentence.of("1 36", "At first: nothing.");
        ShoeOrchard x = new ShoeOrchard();
        Check.dueRow("counts", counts(x), 0, 0, 1, 3, 0, 0, 0, 0, 0, 0, 0, 0, 0);
        Check.due("no TREE", x.tree(0, 0), -2);
        Check.due("no PERSON", x.person(0, 0), -2);
        Check.due("no MARK", x.mark(0, true), false);
        Check.due("no undoing", x.undo(), false);
        Check.due("a TAPE can be read", x.orchard() + x.morning(), 0);
    }
}
