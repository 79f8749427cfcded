/** Promises 2, 3 and 4: the TAPE, its TOKENS, and the FAULTS of an ORCHARD and a MORNING. */
public final class FaultsTest {
    private static final String TOLD = "tree tt boot last 1 age 1 ; tree uu boot last 1 age 1 ; "
            + "person pp old feet 1 ; person qq old feet 1 ; ";

    public static void main(String[] args) {
        tapes();
        tokens();
        orchardLines();
        names();
        numbers();
        tooMany();
        formulas();
        depths();
        values();
        morningLines();
        whatStays();
        Check.end();
    }

    private static void orchardFault(int kind, String text) {
        Check.orchardFault(kind, text);
    }

    private static void morningFault(int kind, String text) {
        Check.morningFault(kind, TOLD, text);
    }

    private static void tapes() {
        ShoeOrchard orchard = new ShoeOrchard();
        Check.due("nothing fed", orchard.feed(0, 0, 0), 0);
        Check.due("the highest byte first", orchard.feed(0x7472656520000000L, 0x61L, -1), 6);
        Check.due("tree a", orchard.orchard(), 1 + 16 * 6);
        Check.due("taken", orchard.count(12), 0);
        Check.due("edges of signs", orchard.feed(0x0A0B091F207E7F80L, 0x0DFF000000000000L, 0), 3);
        Check.due("10 and 32 are blanks, ~ is no token", orchard.orchard(), 1 + 16 * 2);
        for (int i = 0; i < 41; i++) {
            orchard.feed(0x2020202020202020L, 0x2020202020202020L, 0x2020202020202020L);
        }
        Check.due("984 signs", orchard.count(12), 984);
        Check.due("1000 signs", Check.feed(orchard, "pinch 5 ; noon 6 frost 1 ;"), 1000);
        Check.due("no more", orchard.feed(-1L >>> 1, 0x6161616161616161L, 0), 1000);
        Check.due("cut behind noon 6", orchard.orchard(), 1 + 16 * 1000);
        Check.due("empty then", orchard.feed(0, 0, 0), 0);
        Check.due("an empty ORCHARD is one", orchard.orchard(), 0);
        Check.due("an empty MORNING is one", orchard.morning(), 0);
    }

    private static void tokens() {
        orchardFault(0, "pinch3;noon2;frost0 1 2;");
        orchardFault(0, "\npinch\n3\n;\n");
        orchardFault(0, "tree a boot last 3age 2;person b old feet 7;");
        orchardFault(0, "tree abcdefgh boot last 3 age 2 ;");
        orchardFault(1, "tree ^abcdefghi boot last 3 age 2 ;");
        orchardFault(1, "tree a ^Boot last 3 age 2 ;");
        orchardFault(1, "tree a^A boot last 3 age 2 ;");
        orchardFault(0, "tree a boot last 0003 age 0020 ;");
        orchardFault(1, "tree a boot last ^00003 age 2 ;");
        orchardFault(1, "tree a boot last ^, age 2 ;");
        orchardFault(1, "^;");
        orchardFault(1, "pinch 1 ; ^;");
        orchardFault(1, "pinch 1^");
        orchardFault(1, "pinch 1   ^");
        orchardFault(1, "pinch 1 ^noon 2 ;");
        orchardFault(1, "pinch ^- 1 ;");
        orchardFault(1, "^treea boot last 3 age 2 ;");
        orchardFault(0, "bears 9999 ;");
        orchardFault(1, "bears ^10000 ;");
    }

    private static void orchardLines() {
        orchardFault(0, TOLD);
        orchardFault(0, "bears size ; noon 1 ; person a hopper feet 0 ; frost 3 ; pinch 0 ; tree b sandal last 0 age 0 ;");
        orchardFault(1, "^orchard");
        orchardFault(1, "^try a b ;");
        orchardFault(1, "^3");
        orchardFault(1, "tree^");
        orchardFault(1, "tree ^3");
        orchardFault(1, "tree a ^plain last 1 age 1 ;");
        orchardFault(1, "tree a ^last 1 age 1 ;");
        orchardFault(1, "tree a boot ^age 1 last 1 ;");
        orchardFault(1, "tree a boot last ^age 1 ;");
        orchardFault(1, "tree a boot last 1 ^; age 1 ;");
        orchardFault(1, "tree a boot last 1 age 1 ^1 ;");
        orchardFault(1, "person a ^boot feet 1 ;");
        orchardFault(1, "person a plain ^last 1 ;");
        orchardFault(1, "person a plain feet ^;");
        orchardFault(1, "person a plain feet 1^");
        orchardFault(1, "noon ^;");
        orchardFault(1, "pinch ^x ;");
        orchardFault(1, "frost ^;");
        orchardFault(1, "frost 1 ^noon 2 ;");
        orchardFault(3, "pinch 1 ; noon 1 ; ^pinch 1 ;");
        orchardFault(3, "noon 1 ; ^noon");
        orchardFault(3, "frost 1 ; ^frost");
        orchardFault(3, "bears 1 ; ^bears");
    }

    private static void names() {
        String[] noNames = ("tree last age person feet pinch noon frost bears try share graft prune year "
                + "brogue boot slipper sandal plain child hopper old not and or").split(" ");
        for (String word : noNames) {
            orchardFault(1, "tree ^" + word + " boot last 1 age 1 ;");
            orchardFault(1, "person ^" + word + " old feet 1 ;");
        }
        orchardFault(0, "tree size boot last 1 age 1 ; tree years boot last 1 age 1 ; "
                + "person chill old feet 1 ; person date old feet 1 ; tree orc boot last 1 age 1 ;");
        orchardFault(0, "tree a boot last 1 age 1 ; tree aa boot last 1 age 1 ; person aaa old feet 1 ;");
        orchardFault(3, "tree a boot last 1 age 1 ; tree ^a boot");
        orchardFault(3, "tree a boot last 1 age 1 ; person ^a old");
        orchardFault(3, "person a old feet 1 ; tree ^a boot");
        orchardFault(3, "person a old feet 1 ; person ^a boot");
    }

    private static void numbers() {
        orchardFault(0, "tree a boot last 30 age 20 ; person b old feet 30 ; pinch 5 ; noon 6 ; frost 3 ;");
        orchardFault(0, "tree a boot last 0 age 0 ; person b old feet 0 ; pinch 0 ; noon 1 ; frost 0 ;");
        orchardFault(4, "tree a boot last ^31 age 21 ;");
        orchardFault(4, "tree a boot last 30 age ^21 ;");
        orchardFault(4, "person b old feet ^31 ;");
        orchardFault(4, "pinch ^6 ;");
        orchardFault(4, "noon ^0 ;");
        orchardFault(4, "noon ^7 ;");
        orchardFault(4, "noon ^9999 ;");
        orchardFault(4, "frost ^4 ;");
        orchardFault(4, "frost 0 1 2 3 ^4 ;");
    }

    private static void tooMany() {
        StringBuilder all = new StringBuilder();
        for (char c = 'a'; c <= 'f'; c++) {
            all.append("tree t").append(c).append(" boot last 1 age 1 ; person p").append(c).append(" old feet 1 ; ");
        }
        orchardFault(0, all.toString());
        orchardFault(5, all + "^tree tg boot last 1 age 1 ;");
        orchardFault(5, all + "^person ta");
        orchardFault(5, all + "pinch 1 ; ^tree");
        orchardFault(0, "frost 1 1 1 1 1 1 1 1 1 1 1 2 ;");
        orchardFault(5, "frost 1 1 1 1 1 1 1 1 1 1 1 2 ^3 ;");
        orchardFault(4, "frost 1 1 1 1 1 1 1 1 1 1 1 2 ^4 ;");
        orchardFault(1, "frost 1 1 1 1 1 1 1 1 1 1 1 2 ^12345 ;");
    }

    private static void formulas() {
        orchardFault(0, "bears size + years - chill * date < 3 and not 4 or ( 5 = 6 ) ;");
        orchardFault(0, "bears 1 < 2 and 3 = 4 or 5 < 6 ;");
        orchardFault(0, "bears not not 1 ;");
        orchardFault(0, "bears ( 1 < 2 ) < 3 ;");
        orchardFault(1, "bears ^;");
        orchardFault(1, "bears^");
        orchardFault(1, "bears ^last ;");
        orchardFault(1, "bears ^oak ;");
        orchardFault(1, "bears ^- 1 ;");
        orchardFault(1, "bears 1 ^2 ;");
        orchardFault(1, "bears 1 + ^;");
        orchardFault(1, "bears 1 * ^* 2 ;");
        orchardFault(1, "bears 1 < 2 ^< 3 ;");
        orchardFault(1, "bears 1 = 2 ^< 3 ;");
        orchardFault(1, "bears 1 < 2 ^= 3 ;");
        orchardFault(1, "bears 1 ^not 2 ;");
        orchardFault(1, "bears 1 and ^and 2 ;");
        orchardFault(1, "bears 1 and ^or 2 ;");
        orchardFault(1, "bears ^) ;");
        orchardFault(1, "bears 1 ^) ;");
        orchardFault(1, "bears ( 1 ^; ");
        orchardFault(1, "bears ( ^) ;");
        orchardFault(1, "bears ( 1 + 2^");
        orchardFault(1, "bears 1 < ^= 2 ;");
        orchardFault(1, "bears 1 ^& 2 ;");
    }

    private static void depths() {
        orchardFault(0, "bears not not not not 1 ;");
        orchardFault(5, "bears not not not not not ^1 ;");
        orchardFault(5, "bears not not not not not ^not 1 ;");
        orchardFault(1, "bears not not not not not ^; ");
        orchardFault(1, "bears not not not not not ^oak ;");
        orchardFault(0, "bears ( ( ( ( 1 ) ) ) ) ;");
        orchardFault(0, "bears ( ( ( ( 1 ) * ( 2 ) ) ) ) ;");
        orchardFault(5, "bears ( ( ( ( ( ^1 ) ) ) ) ) ;");
        orchardFault(5, "bears ( ( ( ( ( ^( 1 ) ) ) ) ) ) ;");
        orchardFault(1, "bears ( ( ( ( ( ^) ;");
        orchardFault(5, "bears ( not ( not ( ^size ) ) ) ;");
        orchardFault(0, "bears ( not ( not size ) ) ;");
        orchardFault(5, "bears not ( 1 + not ( 2 and ( ^3 * 4 ) ) ) ;");
        orchardFault(0, "bears not not not not 1 + not not not not 2 and ( ( ( ( 3 ) ) ) ) ;");
    }

    /** What E comes to, by the SIZE of a tree of last 7, age 5, in year 0 with frost 3. */
    private static void values() {
        value("size", 7);
        value("years", 5);
        value("chill", 3);
        value("date", 0);
        value("40", 40);
        value("41", 40);
        value("9999", 40);
        value("1 - 2", 0);
        value("10 - 2 - 3", 5);
        value("10 - 2 * 3", 4);
        value("( 10 - 2 ) * 3", 24);
        value("10 - ( 2 - 3 )", 11);
        value("not 0 + 5", 6);
        value("not ( 0 + 5 ) + 3", 3);
        value("not not 7", 1);
        value("7 and 8", 1);
        value("7 and 0", 0);
        value("0 or 8", 1);
        value("0 or 0", 0);
        value("1 or 1 and 0", 0);
        value("0 and 1 or 1", 1);
        value("2 < 3", 1);
        value("3 < 3", 0);
        value("3 = 3", 1);
        value("3 = 4", 0);
        value("1 + 2 < 4 and 2 * 3 = 6", 1);
        value("( 2 < 3 ) * 9 + 4", 13);
        value("0 - 1 or 0", 1);
        value("( 9999 * 9999 * 9999 < 0 ) * 2 + 5", 5 + 2 * (9999 * 9999 * 9999 < 0 ? 1 : 0));
        value("( 9999 * 9999 * 99 < 0 ) * 2 + 5", 5 + 2 * (9999 * 9999 * 99 < 0 ? 1 : 0));
        value("8192 * 8192 * 64 + 9", 9);
        value("8192 * 8192 * 32 - 1 < 0", 0);
        value("8192 * 8192 * 32 < 0", 1);
        value("1*(2+(3+(4*(5-1)*1)*1)*1)*1-0", 21);
        String deep = "1";
        for (int i = 0; i < 5; i++) {
            deep = "0 or 5 = 3 + 2 * " + (i == 0 ? deep : "( " + deep + " )");
        }
        value(deep, 1);
        StringBuilder sum = new StringBuilder("1");
        for (int i = 0; i < 470; i++) {
            sum.append(i % 2 == 0 ? "+1" : "-1");
        }
        value(sum.toString(), 1);
    }

    private static void value(String formula, int want) {
        ShoeOrchard orchard = new ShoeOrchard();
        Check.due("orchard of " + formula, Check.tell(orchard,
                "tree a boot last 7 age 5;frost 3;bears " + formula + ";"), 0);
        Check.due(formula, orchard.tree(0, 3), want);
    }

    private static void morningLines() {
        morningFault(0, "");
        morningFault(0, "try pp tt ; share pp qq ; graft tt uu ; prune uu ; year ;");
        morningFault(0, "try qq uu;year;year;\n");
        morningFault(1, "^walk");
        morningFault(1, "^tree");
        morningFault(1, "^;");
        morningFault(1, "^pp");
        morningFault(1, "year ^1");
        morningFault(1, "year^");
        morningFault(1, "try ^;");
        morningFault(1, "try ^year tt ;");
        morningFault(1, "try ^abcdefghi tt ;");
        morningFault(1, "try pp ^;");
        morningFault(1, "try pp tt^");
        morningFault(1, "try pp tt ^uu ;");
        morningFault(1, "prune tt ^uu ;");
        morningFault(1, "prune ^3 ;");
        morningFault(1, "share pp ^old ;");
        morningFault(2, "try ^tt pp ;");
        morningFault(2, "try ^xx xx ;");
        morningFault(2, "try pp ^qq ;");
        morningFault(2, "try pp ^pp ;");
        morningFault(2, "share ^tt pp ;");
        morningFault(2, "share pp ^tt ;");
        morningFault(2, "share ^xx xx ;");
        morningFault(3, "share pp ^pp ;");
        morningFault(2, "graft ^pp tt ;");
        morningFault(2, "graft tt ^pp ;");
        morningFault(3, "graft tt ^tt ;");
        morningFault(2, "prune ^qq ;");
        String forty = "prune tt ; ".repeat(40);
        morningFault(0, forty);
        morningFault(5, forty + "^year ;");
        morningFault(5, forty + "^try xx");
        morningFault(1, forty + "^walk");
        morningFault(1, forty + "^;");
    }

    private static void whatStays() {
        ShoeOrchard orchard = Check.of(TOLD + "pinch 2 ; noon 4 ; frost 1 2 ; bears 3 ;");
        Check.tellMorning(orchard, "year ; year ;");
        orchard.year();
        orchard.feel(0, true);
        orchard.mark(2, false);
        Check.due("a FAULT", Check.tell(orchard, "tree zz slipper last 9 age 9 ; pinch 1 ; noon 1 ; bears 1 ; frost 0 ; x") & 15, 1);
        Check.due("the tape is taken", orchard.count(12), 0);
        Check.due("trees stay", orchard.count(0), 2);
        Check.due("persons stay", orchard.count(1), 2);
        Check.due("pinch stays", orchard.count(2), 2);
        Check.due("noon stays", orchard.count(3), 4);
        Check.due("year stays", orchard.count(4), 1);
        Check.due("frost stays", orchard.count(5), 2);
        Check.due("bears stays", orchard.tree(0, 3), 3);
        Check.due("lines stay", orchard.count(9), 2);
        Check.due("felt stays", orchard.count(10), 1);
        Check.due("undo stays", orchard.count(11), 1);
        Check.due("a FAULT of a MORNING", Check.tellMorning(orchard, "try pp tt ; year ; year ; x") & 15, 1);
        Check.due("lines stay", orchard.count(9), 2);
        Check.due("marks stay", orchard.mark(2, true), true);
        Check.due("names stay", Check.tellMorning(orchard, "try pp tt ; graft uu tt ; share pp qq ;"), 0);
        Check.due("other lines", orchard.count(9), 3);
        Check.due("a MORNING leaves the rest", orchard.count(4) * 10 + orchard.count(10), 11);
        orchard.year();
        Check.due("another ORCHARD", Check.tell(orchard, ""), 0);
        int[] counts = new int[13];
        for (int what = 0; what < 13; what++) {
            counts[what] = orchard.count(what);
        }
        Check.dueRow("counts", counts, 0, 0, 1, 3, 0, 0, 0, 0, 0, 0, 0, 0, 0);
        Check.due("no mark is there", orchard.mark(2, true), false);
        Check.due("nothing to undo", orchard.undo(), false);
    }
}
