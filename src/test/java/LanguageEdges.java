/** Boundaries of what an ORCHARD and a MORNING may tell ("Terms", promises 3 and 4, and what shows it). */
final class LanguageEdges {
    private LanguageEdges() {
    }

    static void run() {
        anyNumberOfLines();
        formsOfOrchards();
        formsOfMornings();
        sixTrees();
        kindsOfTrees();
        lasts();
        ages();
        sixPersons();
        kindsOfPersons();
        feet();
        pinch();
        noon();
        frost();
        frostsInARow();
        frostAgainAndAgain();
        onceEach();
        fortyLines();
        whomLinesName();
        names();
        namesAlike();
    }

    /** A tree of each letter from a on, its last being its number. */
    static String trees(int number) {
        StringBuilder text = new StringBuilder();
        for (int i = 0; i < number; i++) {
            text.append("tree t").append((char) ('a' + i)).append(" boot last ").append(i).append(" age 1 ; ");
        }
        return text.toString();
    }

    static String persons(int number) {
        StringBuilder text = new StringBuilder();
        for (int i = 0; i < number; i++) {
            text.append("person p").append((char) ('a' + i)).append(" old feet ").append(i).append(" ; ");
        }
        return text.toString();
    }

    private static void anyNumberOfLines() {
        Sentence.of("3 4", "any number of");
        Check.orchardFault(0, "");
        Check.orchardFault(0, "\n");
        Check.orchardFault(0, "noon 1 ;");
        Check.orchardFault(0, trees(6) + persons(6) + "pinch 0 ; noon 1 ; frost 0 ; bears 0 ;");
        Check.orchardFault(0, "bears 0 ; frost 0 ; noon 1 ; pinch 0 ; " + persons(6) + trees(6));
        Check.orchardFault(1, "noon 1 ; ^;");
        Check.morningFault(0, "", "");
        Check.morningFault(0, "", "\n");
        Check.morningFault(0, "", "year ;");
        Check.morningFault(0, "", "year ; year ;");
        Check.morningFault(1, "", "year ; ^;");
    }

    private static String joined(String[] tokens, int from, int to) {
        StringBuilder text = new StringBuilder();
        for (int i = from; i < to; i++) {
            text.append(tokens[i]).append(' ');
        }
        return text.toString();
    }

    /** Of a text each begin, the text without one token, and with one of them twice; told is "" for an ORCHARD. */
    private static void shortAndLong(String told, String text) {
        String[] tokens = text.split(" ");
        for (int i = 0; i < tokens.length; i++) {
            boolean whole = i == 0 || tokens[i - 1].equals(";");
            String begin = joined(tokens, 0, i);
            fault(whole ? 0 : 1, told, begin + "^");
            fault(1, told, begin + "^" + joined(tokens, i + 1, tokens.length));
            fault(1, told, begin + tokens[i] + " ^" + joined(tokens, i, tokens.length));
            if (!tokens[i].equals(";")) {
                fault(1, told, begin + "^;");
                fault(1, told, begin + "^; year");
            }
        }
        fault(0, told, text);
    }

    private static void fault(int kind, String told, String text) {
        if (told.isEmpty()) {
            Check.orchardFault(kind, text);
        } else {
            Check.morningFault(kind, told, text);
        }
    }

    private static void formsOfOrchards() {
        Sentence.of("3", "tree NAME KIND last N age N ; person NAME KIND feet N ; pinch N ; noon N ; frost N N .. ; bears E ;");
        shortAndLong("", "tree a boot last 3 age 2 ; person p old feet 4 ; pinch 2 ; noon 2 ; bears 1 ; person q plain feet 0 ;");
        Check.orchardFault(0, "frost 1 ;");
        Check.orchardFault(0, "frost 1 2 ;");
        Check.orchardFault(1, "^1 2 ;");
        Check.orchardFault(1, "frost ^; pinch 2 ;");
        Check.orchardFault(1, "frost 1 2 ^pinch 2 ;");
        Check.orchardFault(1, "frost 1 2 ; ^; pinch 2 ;");
        Check.orchardFault(1, "frost ^");
        Check.orchardFault(1, "frost 1 2 ^");
    }

    private static void formsOfMornings() {
        Sentence.of("4", "try NAME NAME ; share NAME NAME ; graft NAME NAME ; prune NAME ; year ;");
        String told = "tree tt boot last 1 age 1 ; tree uu boot last 1 age 1 ; person pp old feet 1 ; person qq old feet 1 ;";
        shortAndLong(told, "year ; prune tt ; year ; year ;");
        String[] lines = {"try pp tt ;", "share pp qq ;", "graft tt uu ;"};
        for (String line : lines) {
            String[] tokens = line.split(" ");
            Check.morningFault(1, told, "^" + joined(tokens, 1, 4));
            Check.morningFault(1, told, tokens[0] + " ^");
            Check.morningFault(1, told, tokens[0] + " ^;");
            Check.morningFault(1, told, tokens[0] + " ^" + line);
            Check.morningFault(1, told, joined(tokens, 0, 2) + "^");
            Check.morningFault(1, told, joined(tokens, 0, 2) + "^;");
            Check.morningFault(1, told, joined(tokens, 0, 3) + "^");
            Check.morningFault(1, told, joined(tokens, 0, 3) + "^" + line);
            Check.morningFault(1, told, joined(tokens, 0, 3) + "^" + tokens[2] + " ;");
            Check.morningFault(1, told, line + " ^;");
            Check.morningFault(0, told, line + " " + line);
        }
    }

    private static void sixTrees() {
        Sentence.of("3 5 36", "tree: 6 at most, numbered as told");
        for (int number = 0; number <= 7; number++) {
            ShoeOrchard x = new ShoeOrchard();
            String text = trees(number);
            Check.due(number + " trees", Check.tell(x, text), number <= 6 ? 0 : 5 + 16 * text.indexOf("tree tg"));
            int there = number <= 6 ? number : 0;
            Check.due("how many", x.count(0), there);
            for (int tree = 0; tree < there; tree++) {
                Check.due("numbered as told", x.tree(tree, 1), tree);
            }
            Check.due("one more", x.tree(there, 1), -2);
        }
        Check.orchardFault(5, trees(6) + persons(3) + "^tree");
    }

    private static void kindsOfTrees() {
        Sentence.of("3 5", "KIND: brogue, boot, slipper, sandal");
        String[] kinds = {"brogue", "boot", "slipper", "sandal"};
        for (int kind = 0; kind < 4; kind++) {
            ShoeOrchard x = Check.of("tree a " + kinds[kind] + " last 1 age 1 ;");
            Check.due(kinds[kind], x.tree(0, 0), kind);
        }
        for (String other : new String[] {"plain", "child", "hopper", "old", "shoe", "tree", "last", "brogues", "boo", "3", ";"}) {
            Check.orchardFault(1, "tree a ^" + other + " last 1 age 1 ;");
        }
    }

    /** A NUMBER where the sign # stands: 0, or the FAULT 4 at its place. */
    private static ShoeOrchard number(String text, int number, boolean asTold) {
        ShoeOrchard x = new ShoeOrchard();
        int due = asTold ? 0 : 4 + 16 * text.indexOf('#');
        Check.due(text + " by " + number, Check.tell(x, text.replace("#", "" + number)), due);
        return x;
    }

    private static void lasts() {
        Sentence.of("3 5", "last 0 to 30");
        for (int last = 0; last <= 33; last++) {
            ShoeOrchard x = number("tree a boot last # age 20 ;", last, last <= 30);
            Check.due("last", x.tree(0, 1), last <= 30 ? last : -2);
        }
        number("tree a boot last # age 20 ;", 9999, false);
    }

    private static void ages() {
        Sentence.of("3 5", "age 0 to 20");
        for (int age = 0; age <= 23; age++) {
            ShoeOrchard x = number("tree a boot last 30 age # ;", age, age <= 20);
            Check.due("age", x.tree(0, 2), age <= 20 ? age : -2);
        }
        number("tree a boot last 30 age # ;", 99, false);
        number("tree a boot last 30 age # ;", 9999, false);
    }

    private static void sixPersons() {
        Sentence.of("3 6 36", "person: 6 at most, numbered as told");
        for (int number = 0; number <= 7; number++) {
            ShoeOrchard x = new ShoeOrchard();
            String text = persons(number);
            Check.due(number + " persons", Check.tell(x, text), number <= 6 ? 0 : 5 + 16 * text.indexOf("person pg"));
            int there = number <= 6 ? number : 0;
            Check.due("how many", x.count(1), there);
            for (int person = 0; person < there; person++) {
                Check.due("numbered as told", x.person(person, 1), person);
            }
            Check.due("one more", x.person(there, 1), -2);
        }
        Check.orchardFault(5, persons(6) + trees(3) + "^person");
        ShoeOrchard both = Check.of("person a old feet 7 ; tree b boot last 8 age 1 ; person c old feet 9 ; tree d boot last 10 age 1 ;");
        Check.dueRow("each by its own numbers", new int[] {both.person(0, 1), both.person(1, 1), both.tree(0, 1), both.tree(1, 1)},
                7, 9, 8, 10);
    }

    private static void kindsOfPersons() {
        Sentence.of("3 6", "KIND: plain, child, hopper, old");
        String[] kinds = {"plain", "child", "hopper", "old"};
        for (int kind = 0; kind < 4; kind++) {
            ShoeOrchard x = Check.of("person a " + kinds[kind] + " feet 1 ;");
            Check.due(kinds[kind], x.person(0, 0), kind);
        }
        for (String other : new String[] {"brogue", "boot", "slipper", "sandal", "man", "person", "feet", "olds", "ol", "3", ";"}) {
            Check.orchardFault(1, "person a ^" + other + " feet 1 ;");
        }
    }

    private static void feet() {
        Sentence.of("3 6", "feet 0 to 30");
        for (int feet = 0; feet <= 33; feet++) {
            ShoeOrchard x = number("person a old feet # ;", feet, feet <= 30);
            Check.due("feet", x.person(0, 1), feet <= 30 ? feet : -2);
        }
        number("person a old feet # ;", 40, false);
        number("person a old feet # ;", 9999, false);
    }

    private static void pinch() {
        Sentence.of("3 36", "pinch 0 to 5 (1)");
        for (int pinch = 0; pinch <= 8; pinch++) {
            ShoeOrchard x = number("pinch # ;", pinch, pinch <= 5);
            Check.due("pinch", x.count(2), pinch <= 5 ? pinch : 1);
        }
        ShoeOrchard x = Check.of("pinch 4 ;");
        Check.due("told", x.count(2), 4);
        Check.tell(x, "noon 2 ;");
        Check.due("not told", x.count(2), 1);
        Check.due("nothing told", new ShoeOrchard().count(2), 1);
    }

    private static void noon() {
        Sentence.of("3 36", "noon 1 to 6 (3)");
        for (int noon = 0; noon <= 9; noon++) {
            boolean asTold = noon >= 1 && noon <= 6;
            ShoeOrchard x = number("noon # ;", noon, asTold);
            Check.due("noon", x.count(3), asTold ? noon : 3);
        }
        ShoeOrchard x = Check.of("noon 4 ;");
        Check.due("told", x.count(3), 4);
        Check.tell(x, "pinch 2 ;");
        Check.due("not told", x.count(3), 3);
        Check.due("nothing told", new ShoeOrchard().count(3), 3);
    }

    private static void frost() {
        Sentence.of("3 36", "frost 0 to 3 of one year behind another");
        for (int frost = 0; frost <= 6; frost++) {
            ShoeOrchard x = number("frost # ;", frost, frost <= 3);
            Check.due("frost", x.count(5), frost <= 3 ? frost : 0);
            ShoeOrchard y = number("frost 1 2 # 3 ;", frost, frost <= 3);
            y.year();
            Check.due("the second", y.count(5), frost <= 3 ? 2 : 0);
            y.year();
            Check.due("the third", y.count(5), frost <= 3 ? frost : 0);
        }
    }

    private static void frostsInARow() {
        Sentence.of("3 12 36", "1 to 12, again and again (0)");
        Check.orchardFault(1, "frost ^;");
        StringBuilder text = new StringBuilder("frost");
        for (int number = 1; number <= 15; number++) {
            text.append(number == 13 ? " ^" : " ").append(number % 4);
            Check.orchardFault(number <= 12 ? 0 : 5, text + " ;");
        }
    }

    private static void frostAgainAndAgain() {
        Sentence.of("3 12 36", "again and again (0)");
        for (int number = 1; number <= 12; number++) {
            StringBuilder text = new StringBuilder("frost");
            for (int i = 0; i < number; i++) {
                text.append(' ').append((i * i + number) % 4);
            }
            ShoeOrchard x = Check.of(text + " ;");
            for (int year = 0; year <= 3 * number; year++) {
                int i = year % number;
                Check.due("frost of year " + year + " of " + number, x.count(5), (i * i + number) % 4);
                x.year();
            }
        }
        ShoeOrchard none = Check.of("noon 2 ;");
        for (int year = 0; year < 15; year++) {
            Check.due("without frost", none.count(5), 0);
            none.year();
        }
        ShoeOrchard x = Check.of("frost 3 ;");
        Check.tell(x, "noon 2 ;");
        Check.due("not told any more", x.count(5), 0);
    }

    private static void onceEach() {
        Sentence.of("3", "pinch, noon, frost, bears: once each");
        for (String word : "pinch noon frost bears".split(" ")) {
            Check.orchardFault(0, word + " 1 ;");
            Check.orchardFault(3, word + " 1 ; ^" + word + " 1 ;");
            Check.orchardFault(3, word + " 1 ; " + trees(2) + persons(1) + "^" + word + " 1 ;");
            Check.orchardFault(3, word + " 1 ; ^" + word);
        }
        Check.orchardFault(3, "pinch 1 ; noon 1 ; frost 1 ; bears 1 ; ^noon 1 ;");
        ShoeOrchard x = Check.of("pinch 1 ; noon 1 ; frost 1 ; bears 1 ;");
        Check.due("once in each ORCHARD", Check.tell(x, "pinch 1 ; noon 1 ; frost 1 ; bears 1 ;"), 0);
        Check.tell(x, "pinch 1 ; pinch 1 ;");
        Check.due("a wrong one counts no more", Check.tell(x, "pinch 1 ;"), 0);
    }

    private static void fortyLines() {
        Sentence.of("4 14 36", "40 lines at most");
        for (int lines : new int[] {0, 1, 39, 40, 41, 42, 60}) {
            ShoeOrchard x = new ShoeOrchard();
            Check.tellMorning(x, "year ; year ;");
            String text = "year ; ".repeat(lines);
            Check.due(lines + " lines", Check.tellMorning(x, text), lines <= 40 ? 0 : 5 + 16 * 40 * 7);
            Check.due("how many", x.count(9), lines <= 40 ? lines : 2);
        }
        ShoeOrchard x = Check.of("tree a boot last 5 age 0 ; person p plain feet 5 ; person q plain feet 9 ; ");
        Check.due("40 lines", Check.tellMorning(x, "year ; ".repeat(39) + "try q a ;"), 0);
        Check.due("the 40th is judged", x.judged(1), 39);
        Check.due("39 lines", Check.tellMorning(x, "year ; ".repeat(38) + "try p a ;"), 0);
        Check.due("the 39th is judged", x.judged(2), 2);
    }

    private static void whomLinesName() {
        Sentence.of("4", "(a PERSON a TREE; a PERSON with another one; a TREE by another one; a TREE)");
        String told = "tree tt boot last 1 age 1 ; tree uu boot last 1 age 1 ; person pp old feet 1 ; person qq old feet 1 ;";
        Check.morningFault(0, told, "try pp tt ; try qq uu ; share pp qq ; share qq pp ; graft tt uu ; graft uu tt ; prune tt ; prune uu ;");
        Check.morningFault(2, told, "try ^tt tt ;");
        Check.morningFault(2, told, "try pp ^qq ;");
        Check.morningFault(2, told, "share ^tt qq ;");
        Check.morningFault(2, told, "share pp ^uu ;");
        Check.morningFault(2, told, "graft ^pp uu ;");
        Check.morningFault(2, told, "graft tt ^qq ;");
        Check.morningFault(2, told, "prune ^pp ;");
        Check.morningFault(3, told, "share pp ^pp ;");
        Check.morningFault(3, told, "graft tt ^tt ;");
        for (String line : "try pp tt,share pp qq,graft tt uu,prune tt,year".split(",")) {
            Check.morningFault(1, told, line + "^");
            Check.morningFault(1, told, line + " ^tt ;");
            if (line.contains(" ")) {
                String shorter = line.substring(0, line.lastIndexOf(' '));
                Check.morningFault(1, told, shorter + " ^;");
                Check.morningFault(1, told, shorter + "^");
            }
        }
    }

    private static void names() {
        Sentence.of("3 4", "A NAME is another WORD than tree, last, age, person, feet, pinch, noon, frost, bears, "
                + "try, share, graft, prune, year, the KINDS, not, and, or");
        String[] noNames = ("tree last age person feet pinch noon frost bears try share graft prune year "
                + "brogue boot slipper sandal plain child hopper old not and or").split(" ");
        for (String word : noNames) {
            Check.orchardFault(1, "tree ^" + word + " boot last 1 age 1 ;");
            Check.orchardFault(1, "person ^" + word + " old feet 1 ;");
            Check.morningFault(1, "", "try ^" + word + " a ;");
            Check.morningFault(1, "", "prune ^" + word + " ;");
            String shorter = word.substring(0, word.length() - 1);
            String longer = word.length() < 8 ? word + "x" : "x";
            Check.orchardFault(0, "tree " + shorter + " boot last 1 age 1 ; person " + longer + " old feet 1 ;");
            Check.morningFault(2, "", "prune ^" + shorter + " ;");
        }
        for (String fact : "size years chill date".split(" ")) {
            Check.orchardFault(0, "tree " + fact + " boot last 1 age 1 ;");
            Check.orchardFault(0, "person " + fact + " old feet 1 ;");
            Check.morningFault(2, "", "prune ^" + fact + " ;");
        }
    }

    private static void namesAlike() {
        Sentence.of("3", "no two (TREES, PERSONS) are alike");
        Check.orchardFault(3, "tree a boot last 1 age 1 ; tree ^a boot last 2 age 2 ;");
        Check.orchardFault(3, "tree a boot last 1 age 1 ; person ^a old feet 2 ;");
        Check.orchardFault(3, "person a old feet 1 ; tree ^a boot last 2 age 2 ;");
        Check.orchardFault(3, "person a old feet 1 ; person ^a old feet 2 ;");
        Check.orchardFault(3, trees(6) + "person ^ta old feet 1 ;");
        Check.orchardFault(3, trees(6) + "person ^tf old feet 1 ;");
        Check.orchardFault(3, persons(6) + "tree ^pa boot last 1 age 1 ;");
        Check.orchardFault(3, persons(6) + "tree ^pf boot last 1 age 1 ;");
        Check.orchardFault(0, "tree a boot last 1 age 1 ; tree b boot last 1 age 1 ; person aa old feet 1 ; person ab old feet 1 ;");
        String[] names = "a b y z aa ab ba bb yz za zz aaa aab baa bbb bba zzz aaaaaaaa bbbbbbbb zzzzzzzz aaaaaaab baaaaaaa size date".split(" ");
        for (String one : names) {
            for (String other : names) {
                Check.orchardFault(one.equals(other) ? 3 : 0, "tree " + one + " boot last 1 age 1 ; person ^" + other + " old feet 1 ;");
            }
        }
        ShoeOrchard x = Check.of("tree a boot last 1 age 1 ;");
        Check.due("in another ORCHARD", Check.tell(x, "person a old feet 1 ;"), 0);
        Check.tell(x, "tree b boot last 1 age 1 ; x");
        Check.due("a wrong one counts no more", Check.tell(x, "person b old feet 1 ;"), 0);
    }
}
