/** Boundaries of E, the law of what is borne ("Terms", promise 3, and what shows a SIZE). */
final class FormulaEdges {
    private FormulaEdges() {
    }

    static void run() {
        testsFromTheLeft();
        oneComparison();
        sums();
        products();
        parts();
        withinFive();
        mostThatWaits();
        oneOrNought();
        whatIsSo();
        wrapping();
        facts();
        withoutBears();
    }

    /** The SIZE of a boot of last 7, age 5, in year 0 with frost 3. */
    private static void value(String formula, int due) {
        ShoeOrchard x = Check.of("tree a boot last 7 age 5;frost 3;bears " + formula + ";");
        Check.due(formula, x.tree(0, 3), due);
        Check.due(formula + " by later", x.later(0, 0), due);
    }

    private static void testsFromTheLeft() {
        Sentence.of("3 5", "TEST { and TEST or or TEST }, from the left");
        value("7", 7);
        value("7 and 8", 1);
        value("0 or 8", 1);
        value("1 or 1 and 0", 0);
        value("0 and 0 or 1", 1);
        value("1 or ( 1 and 0 )", 1);
        value("0 and ( 0 or 1 )", 0);
        Check.orchardFault(1, "bears ^and 1 ;");
        Check.orchardFault(1, "bears ^or 1 ;");
        Check.orchardFault(1, "bears 1 and ^;");
        Check.orchardFault(1, "bears 1 or ^;");
        Check.orchardFault(1, "bears 1 and ^or 1 ;");
        Check.orchardFault(1, "bears ^;");
        Check.orchardFault(1, "bears^");
        StringBuilder many = new StringBuilder("0");
        for (int i = 0; i < 220; i++) {
            many.append("or0");
        }
        value(many.toString(), 0);
        value(many + "or1", 1);
        value(many + "or1and0", 0);
    }

    private static void oneComparison() {
        Sentence.of("3 5", "TEST: SUM, or SUM < SUM, or SUM = SUM");
        value("5 + 2", 7);
        value("2 < 3", 1);
        value("3 < 3", 0);
        value("4 < 3", 0);
        value("2 = 3", 0);
        value("3 = 3", 1);
        value("4 = 3", 0);
        value("1 + 2 < 2 + 2", 1);
        value("2 + 2 = 1 + 3", 1);
        Check.orchardFault(1, "bears 1 < 2 ^< 3 ;");
        Check.orchardFault(1, "bears 1 < 2 ^= 3 ;");
        Check.orchardFault(1, "bears 1 = 2 ^< 3 ;");
        Check.orchardFault(1, "bears 1 = 2 ^= 3 ;");
        Check.orchardFault(1, "bears ^< 3 ;");
        Check.orchardFault(1, "bears 1 < ^;");
        Check.orchardFault(1, "bears 1 = ^;");
        value("( 1 < 2 ) < 3 and 1 = 1", 1);
    }

    private static void sums() {
        Sentence.of("3 5", "SUM: PRODUCT { + or - PRODUCT }");
        value("9", 9);
        value("9 - 2 - 3", 4);
        value("9 - 2 + 3", 10);
        value("9 - ( 2 + 3 )", 4);
        value("9 - 2 * 3", 3);
        Check.orchardFault(1, "bears ^+ 1 ;");
        Check.orchardFault(1, "bears ^- 1 ;");
        Check.orchardFault(1, "bears 1 + ^;");
        Check.orchardFault(1, "bears 1 - ^- 1 ;");
        StringBuilder many = new StringBuilder("1");
        for (int i = 0; i < 470; i++) {
            many.append(i % 2 == 0 ? "+1" : "-1");
        }
        value(many.toString(), 1);
    }

    private static void products() {
        Sentence.of("3 5", "PRODUCT: PART { * PART }");
        value("3", 3);
        value("2 * 3 * 4", 24);
        value("2 * not 0 * 3", 6);
        value("2 * ( 3 + 4 )", 14);
        Check.orchardFault(1, "bears ^* 1 ;");
        Check.orchardFault(1, "bears 1 * ^;");
        Check.orchardFault(1, "bears 1 * ^* 1 ;");
        Check.orchardFault(1, "bears 2 ^( 3 ) ;");
    }

    private static void parts() {
        Sentence.of("3 5", "PART: a NUMBER, a fact, not PART, ( E )");
        value("0", 0);
        value("size", 7);
        value("not 3", 0);
        value("( 1 or 0 )", 1);
        value("not 0 + 5", 6);
        value("not ( 0 + 5 )", 0);
        value("not 1 < 1", 1);
        Check.orchardFault(1, "bears not ^;");
        Check.orchardFault(1, "bears not ^and ;");
        Check.orchardFault(1, "bears ( ^) ;");
        Check.orchardFault(1, "bears ( 1 ^;");
        Check.orchardFault(1, "bears 1 ^) ;");
        Check.orchardFault(1, "bears ( 1 ) ^) ;");
        Check.orchardFault(1, "bears ^last ;");
        Check.orchardFault(1, "bears ^oak ;");
        Check.orchardFault(1, "tree oak boot last 1 age 1 ; bears ^oak ;");
    }

    /** Behind so many not and ( as mask says (a bit being a parenthesis) the part, and then what closes. */
    private static String nested(int depth, int mask, String part) {
        StringBuilder open = new StringBuilder("bears ");
        StringBuilder close = new StringBuilder();
        for (int i = 0; i < depth; i++) {
            boolean paren = (mask >> i & 1) != 0;
            open.append(paren ? "( " : "not ");
            close.append(paren ? " )" : "");
        }
        return open + part + close + " ;";
    }

    private static void withinFive() {
        Sentence.of("3", "no PART lies within 5 of not and ( )");
        for (int depth = 0; depth <= 4; depth++) {
            for (int mask = 0; mask < 1 << depth; mask++) {
                Check.orchardFault(0, nested(depth, mask, "1"));
                Check.orchardFault(0, nested(depth, mask, "size * 2 + chill"));
            }
        }
        for (int mask = 0; mask < 32; mask++) {
            Check.orchardFault(5, nested(5, mask, "^1"));
            Check.orchardFault(5, nested(5, mask, "^date"));
            Check.orchardFault(5, nested(5, mask, "^not 1"));
            Check.orchardFault(5, nested(5, mask, "^( 1 )"));
            Check.orchardFault(1, nested(5, mask, "^+"));
            Check.orchardFault(1, nested(5, mask, "^oak"));
            Check.orchardFault(1, nested(5, mask, "^12345"));
        }
        Check.orchardFault(0, "bears not not not not 1 * not not not not 2 + ( ( ( ( 3 ) ) ) ) and ( not ( not 4 ) ) ;");
        Check.orchardFault(5, "bears 1 + ( ( ( ( 2 ) ) ) ) + ( ( ( ( ( ^3 ) ) ) ) ) ;");
        Check.orchardFault(5, "bears ( ( ( ( 2 * not ^3 ) ) ) ) ;");
    }

    /** At each depth that may be, the left sides of or, =, + and * wait for what lies deeper. */
    private static void mostThatWaits() {
        Sentence.of("3 5", "no PART lies within 5 of not and ( )");
        for (int factor = 0; factor <= 2; factor++) {
            String formula = "0 or 7 = 5 + 2 * " + factor;
            for (int depth = 1; depth <= 4; depth++) {
                formula = "0 or 7 = 5 + 2 * ( " + formula + " )";
            }
            value(formula, factor == 1 ? 1 : 0);
            value(formula.replace("0 or", "1 and"), factor == 1 ? 1 : 0);
        }
    }

    /** Below 0 as a PART. */
    private static String part(int number) {
        return number < 0 ? "( 0 - " + -number + " )" : "" + number;
    }

    private static void oneOrNought() {
        Sentence.of("3 5", "Of not, and, or, < and = comes 1 or 0");
        for (int left = -2; left <= 2; left++) {
            value("not " + part(left), left == 0 ? 1 : 0);
            for (int right = -2; right <= 2; right++) {
                String both = part(left) + " # " + part(right);
                value(both.replace("#", "and"), left != 0 && right != 0 ? 1 : 0);
                value(both.replace("#", "or"), left != 0 || right != 0 ? 1 : 0);
                value(both.replace("#", "<"), left < right ? 1 : 0);
                value(both.replace("#", "="), left == right ? 1 : 0);
            }
        }
        value("( 3 < 4 ) + ( 4 = 4 ) + ( 5 and 6 ) + ( 5 or 6 ) + not 0", 5);
    }

    private static void whatIsSo() {
        Sentence.of("3 5", "what is not 0 is so");
        value("not ( 0 - 1 )", 0);
        value("not 0", 1);
        value("not 1", 0);
        value("not 2", 0);
        value("not 9999", 0);
        value("not not 9999", 1);
        value("8192 * 8192 * 32 and 1", 1);
        value("8192 * 8192 * 64 and 1", 0);
    }

    private static void wrapping() {
        Sentence.of("3 5", "ints wrap");
        String least = "8192 * 8192 * 32";
        value(least + " < 0", 1);
        value(least + " - 1 < 0", 0);
        value("0 < " + least + " - 1", 1);
        value(least + " - 1 + 1 < 0", 1);
        value("0 - " + least + " < 0", 1);
        value("0 - " + least + " = " + least, 1);
        value("8192 * 8192 * 64 = 0", 1);
        value("8192 * 8192 * 64 + 9", 9);
        value("( " + least + " - 1 ) * 2 + 9", 7);
        value("( 9999 * 9999 * 9999 < 0 ) + 1", 9999 * 9999 * 9999 < 0 ? 2 : 1);
        value("( 9999 * 9999 * 99 < 0 ) + 1", 9999 * 9999 * 99 < 0 ? 2 : 1);
    }

    private static void facts() {
        Sentence.of("3 5 12", "Facts: size (of the last), years (its age), chill (the year's frost), date (the year's number)");
        ShoeOrchard x = Check.of("tree a boot last 0 age 20 ; tree b boot last 30 age 0 ; tree c slipper last 2 age 0 ; "
                + "bears size ; frost 0 3 1 ;");
        Check.dueRow("size", new int[] {x.tree(0, 3), x.tree(1, 3), x.tree(2, 3)}, 0, 30, 2);
        for (int year = 0; year < 6; year++) {
            Check.due("size by a TREE that bears", x.tree(1, 3), 30);
            Check.due("size of year " + year, x.tree(2, 3), new int[] {2, -1, -1, 0, -1, -1}[year]);
            x.year();
        }
        ShoeOrchard y = Check.of("tree a boot last 9 age 20 ; tree b boot last 9 age 0 ; bears years ;");
        for (int year = 0; year < 42; year++) {
            Check.due("years in " + year, y.tree(0, 3), Math.min(40, 20 + year));
            Check.due("years in " + year, y.tree(1, 3), Math.min(40, year));
            y.year();
        }
        ShoeOrchard z = Check.of("tree a boot last 9 age 9 ; frost 3 0 2 1 ; bears chill ;");
        int[] frost = {3, 0, 2, 1};
        for (int year = 0; year < 9; year++) {
            Check.due("chill in " + year, z.tree(0, 3), frost[year % 4]);
            z.year();
        }
        ShoeOrchard w = Check.of("tree a boot last 9 age 9 ; frost 3 0 ; bears date ;");
        for (int year = 0; year < 42; year++) {
            Check.due("date in " + year, w.tree(0, 3), Math.min(40, year));
            w.year();
        }
    }

    private static void withoutBears() {
        Sentence.of("3 5", "Without bears: size.");
        ShoeOrchard x = Check.of("tree a boot last 0 age 20 ; tree b boot last 30 age 3 ; frost 2 ;");
        Check.dueRow("without", new int[] {x.tree(0, 3), x.tree(1, 3)}, 0, 30);
        Check.tell(x, "tree a boot last 4 age 20 ; bears 5 ;");
        Check.due("with", x.tree(0, 3), 5);
        Check.tell(x, "tree a boot last 4 age 20 ;");
        Check.due("without again", x.tree(0, 3), 4);
        Check.tell(x, "tree a boot last 4 age 20 ; bears 5 ; x");
        Check.due("a wrong one counts not", x.tree(0, 3), 4);
    }
}
