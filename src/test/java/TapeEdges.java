/** Boundaries of the TAPE and its TOKENS ("Terms", promises 2 to 4, and 36 by count(12)). */
final class TapeEdges {
    private TapeEdges() {
    }

    static void run() {
        lastCall();
        signsFed();
        signsRead();
        signsThatCount();
        upTo24();
        highestByteFirst();
        beyondThousand();
        taken();
        blanks();
        asLongAsCanBe();
        lettersOfWords();
        lengthOfWords();
        digitsOfNumbers();
        lengthOfNumbers();
        letterBehindNumber();
        signs();
        allElse();
    }

    private static void lastCall() {
        Sentence.of("1 12", "An object is used for at most 512 calls after it has been made");
        ShoeOrchard x = new ShoeOrchard();
        for (int call = 1; call <= 512; call++) {
            Check.due("call " + call, x.year(), call);
        }
        ShoeOrchard y = new ShoeOrchard();
        for (int call = 1; call <= 512; call++) {
            Check.due("feed " + call, y.feed(0, 0, ';'), call);
        }
    }

    private static void signsFed() {
        Sentence.of("2 36", "The TAPE has at most 1,000 signs");
        ShoeOrchard x = new ShoeOrchard();
        Check.due("none", x.count(12), 0);
        Check.due("999", Check.feed(x, " ".repeat(999)), 999);
        Check.due("count of 999", x.count(12), 999);
        Check.due("1000", Check.feed(x, " "), 1000);
        Check.due("count of 1000", x.count(12), 1000);
        Check.due("1001", Check.feed(x, " "), 1000);
        Check.due("count of 1001", x.count(12), 1000);
    }

    private static void signsRead() {
        Sentence.of("3 4", "The TAPE has at most 1,000 signs");
        for (int before = 998; before <= 1001; before++) {
            String text = " ".repeat(before) + ";";
            int due = before < 1000 ? 1 + 16 * before : 0;
            Check.due("orchard of ; at " + before, Check.tell(new ShoeOrchard(), text), due);
            Check.due("morning of ; at " + before, Check.tellMorning(new ShoeOrchard(), text), due);
        }
        for (int before = 993; before <= 996; before++) {
            ShoeOrchard x = new ShoeOrchard();
            boolean whole = before <= 994;
            Check.due("year ; at " + before, Check.tellMorning(x, " ".repeat(before) + "year ;"), whole ? 0 : 1 + 16 * 1000);
            Check.due("lines", x.count(9), whole ? 1 : 0);
            Check.due("noon 6; at " + (before - 1), Check.tell(x, " ".repeat(before - 1) + "noon 6;"), whole ? 0 : 1 + 16 * 1000);
            Check.due("noon", x.count(3), whole ? 6 : 3);
        }
    }

    private static void signsThatCount() {
        Sentence.of("2", "others than 10 and 32 .. 126");
        for (int sign = 0; sign < 256; sign++) {
            int due = sign == 10 || sign >= 32 && sign <= 126 ? 1 : 0;
            Check.due("sign " + sign + " highest in a", new ShoeOrchard().feed((long) sign << 56, 0, 0), due);
            Check.due("sign " + sign + " in b", new ShoeOrchard().feed(0, (long) sign << 24, 0), due);
            Check.due("sign " + sign + " lowest in c", new ShoeOrchard().feed(0, 0, sign), due);
        }
        ShoeOrchard x = new ShoeOrchard();
        Check.due("all others", x.feed(-1, Long.MIN_VALUE, 0x7F80090B0D1F00FFL), 0);
        Check.due("year ; with others between", x.feed(0x7900657F618072FFL, 0x1FL, 0x203B00000000L), 6);
        Check.due("what is left out parts nothing", x.morning(), 0);
    }

    private static void upTo24() {
        Sentence.of("2", "Up to 24 signs come behind the TAPE");
        ShoeOrchard x = new ShoeOrchard();
        long eight = 0x2020202020202020L;
        Check.due("none", x.feed(0, 0, 0), 0);
        Check.due("24", x.feed(eight, eight, eight), 24);
        for (int gap = 0; gap < 8; gap++) {
            long seven = eight & ~(0xFFL << 8 * gap);
            Check.due("23", x.feed(seven, eight, eight), 47 + gap * 69);
            Check.due("23", x.feed(eight, seven, eight), 70 + gap * 69);
            Check.due("23", x.feed(eight, eight, seven), 93 + gap * 69);
        }
        ShoeOrchard y = new ShoeOrchard();
        Check.due("noon 1", Check.feed(y, "noon 1"), 6);
        Check.due(" ;", Check.feed(y, " ;"), 8);
        Check.due("behind it", y.orchard(), 0);
        Check.due("noon", y.count(3), 1);
    }

    private static void highestByteFirst() {
        Sentence.of("2", "the bytes of a, b, c, of each the highest first");
        ShoeOrchard x = new ShoeOrchard();
        long a = 0x70696E6368203420L;
        long b = 0x3B206E6F6F6E2035L;
        long c = 0x203B2066726F7374L;
        Check.due("pinch 4 ; noon 5 ; frost", x.feed(a, b, c), 24);
        Check.due(" 2;", x.feed(0x2032L, 0x3BL, 0), 27);
        Check.due("orchard", x.orchard(), 0);
        Check.due("pinch", x.count(2), 4);
        Check.due("noon", x.count(3), 5);
        Check.due("frost", x.count(5), 2);
        x.feed(b, a, c);
        Check.due("b before a begins with ;", x.orchard(), 1);
    }

    private static void beyondThousand() {
        Sentence.of("2 3", "what is beyond 1,000, are left out: how many there are");
        for (int before = 989; before <= 992; before++) {
            ShoeOrchard x = new ShoeOrchard();
            Check.feed(x, " ".repeat(before));
            Check.due("24 more", Check.feed(x, "pinch 2 ;;;;;;;;;;;;;;;;"), 1000);
            Check.due("and more", x.feed(-1L >>> 1, 0x3B3B3B3B3B3B3B3BL, 0x3B), 1000);
            int due = before == 991 ? 0 : before < 991 ? 1 + 16 * (before + 9) : 1 + 16 * 1000;
            Check.due("those up to 1000 stay, from " + before, x.orchard(), due);
            Check.due("pinch", x.count(2), before == 991 ? 2 : 1);
            Check.due("room again", Check.feed(x, "noon"), 4);
        }
    }

    private static void taken() {
        Sentence.of("3 4 36", "what reads it takes it: it is empty then");
        String[] texts = {"", " ", "noon 2 ;", "noon 7 ;", "year ;", ";"};
        for (String text : texts) {
            ShoeOrchard x = new ShoeOrchard();
            Check.due("fed", Check.feed(x, text), text.length());
            x.orchard();
            Check.due("orchard took " + text, x.count(12), 0);
            Check.due("an empty one", x.orchard(), 0);
            Check.feed(x, text);
            x.morning();
            Check.due("morning took " + text, x.count(12), 0);
            Check.due("an empty one", x.morning(), 0);
        }
        ShoeOrchard y = new ShoeOrchard();
        Check.tell(y, "noon 7 ;");
        Check.due("nothing of a wrong text is left", Check.tell(y, "noon 2 ;"), 0);
        Check.feed(y, "noon");
        y.year();
        y.undo();
        y.mark(0, false);
        y.mark(0, true);
        Check.due("others leave it", y.count(12), 4);
    }

    private static void blanks() {
        Sentence.of("3 4", "blanks (10, 32) between where one likes");
        Check.orchardFault(0, "noon 2;");
        Check.orchardFault(0, "noon2;");
        Check.orchardFault(0, " \n noon \n\n  2 \n ; \n");
        Check.orchardFault(0, "\nnoon\n2\n;\n");
        Check.orchardFault(1, "^no on 2 ;");
        Check.orchardFault(1, "^no\non 2 ;");
        Check.orchardFault(1, "bears 1 ^2 ;");
        Check.orchardFault(0, "bears 12 ;");
        Check.morningFault(0, "", "year;year\n;\n");
        Check.morningFault(1, "", "^ye ar ;");
        Check.morningFault(0, "tree a boot last 1 age 1 ;", "prune\na;");
        Check.morningFault(1, "tree a boot last 1 age 1 ;", "^prunea;");
    }

    private static void asLongAsCanBe() {
        Sentence.of("3 4", "TOKENS, each as long as can be");
        Check.orchardFault(1, "^noonnoon 2 ;");
        Check.orchardFault(4, "noon ^22 ;");
        Check.orchardFault(1, "noon 2 ^2 ;");
        Check.orchardFault(0, "bears 1+2*3<4;");
        Check.orchardFault(1, "bears 1<^=2;");
        Check.orchardFault(0, "bears((1))-((2));");
        ShoeOrchard x = Check.of("tree notand boot last 1 age 1;person orr old feet 1;");
        Check.due("words that begin as others", Check.tellMorning(x, "try orr notand;"), 0);
        Check.orchardFault(1, "bears not1and^;");
    }

    private static void lettersOfWords() {
        Sentence.of("3", "WORDS (letters a .. z");
        for (char sign = 32; sign <= 126; sign++) {
            boolean letter = sign >= 'a' && sign <= 'z';
            boolean blank = sign == 32;
            int place = blank ? 7 : 5;
            Check.due("a NAME of " + sign, Check.tell(new ShoeOrchard(), "tree " + sign + " boot last 1 age 1 ;"),
                    letter ? 0 : 1 + 16 * place);
        }
    }

    private static void lengthOfWords() {
        Sentence.of("3 4", "8 at most");
        for (int length = 1; length <= 20; length++) {
            String name = "q".repeat(length);
            int kind = length <= 8 ? 0 : 1;
            Check.orchardFault(kind, "tree ^" + name + " boot last 1 age 1 ;");
            Check.orchardFault(kind, "person ^" + name + " old feet 1 ;");
            Check.morningFault(length <= 8 ? 2 : 1, "", "prune ^" + name + " ;");
        }
        String told = "tree abcdefgh boot last 1 age 1 ; tree abcdefgi boot last 1 age 1 ; tree abcdefg boot last 1 age 1 ;";
        Check.morningFault(0, told, "graft abcdefgh abcdefgi ; graft abcdefg abcdefgh ;");
        Check.morningFault(1, told, "graft abcdefgh ^abcdefghi ;");
        Check.morningFault(2, told, "graft abcdefgh ^bcdefghi ;");
    }

    private static void digitsOfNumbers() {
        Sentence.of("3", "NUMBERS (1 to 4 digits");
        for (char sign = 33; sign <= 126; sign++) {
            boolean digit = sign >= '0' && sign <= '9';
            int due = !digit ? 1 + 16 * 6 : sign <= '5' ? 0 : 4 + 16 * 6;
            Check.due("pinch " + sign, Check.tell(new ShoeOrchard(), "pinch " + sign + " ;"), due);
        }
    }

    private static void lengthOfNumbers() {
        Sentence.of("3", "NUMBERS (1 to 4 digits");
        for (int length = 1; length <= 30; length++) {
            String zeros = "0".repeat(length - 1);
            ShoeOrchard x = new ShoeOrchard();
            Check.due("noon of " + length + " digits", Check.tell(x, "noon " + zeros + "5 ;"), length <= 4 ? 0 : 1 + 16 * 5);
            Check.due("noon", x.count(3), length <= 4 ? 5 : 3);
            Check.orchardFault(length <= 4 ? 0 : 1, "bears ^" + "9".repeat(length) + " ;");
        }
        Check.orchardFault(4, "noon ^9999 ;");
        Check.orchardFault(1, "noon ^10000 ;");
        Check.orchardFault(1, "noon ^4294967299 ;");
    }

    private static void letterBehindNumber() {
        Sentence.of("3", "a letter may stand right behind");
        Check.orchardFault(0, "tree a boot last 3age 2;");
        Check.orchardFault(0, "tree a boot last 0003age 2;");
        Check.orchardFault(1, "tree a boot last ^00003age 2;");
        Check.orchardFault(0, "bears 1and 2or 3;");
        Check.orchardFault(1, "noon 3^noon;");
        Check.orchardFault(1, "noon 3^a;");
        Check.orchardFault(1, "noon 3^A;");
        Check.orchardFault(1, "bears 9999^abcdefghi;");
    }

    private static void signs() {
        Sentence.of("3", "the signs ( ) < = + - * ;");
        for (char sign = 33; sign <= 126; sign++) {
            boolean joins = "<=+-*".indexOf(sign) >= 0;
            int due = joins ? 0 : 1 + 16 * (sign == ';' ? 10 : 8);
            Check.due("bears 1 " + sign + " 1", Check.tell(new ShoeOrchard(), "bears 1 " + sign + " 1 ;"), due);
            Check.due("bears ( 1 " + sign, Check.tell(new ShoeOrchard(), "bears ( 1 " + sign + " ;"),
                    sign == ')' ? 0 : 1 + 16 * (joins ? 12 : 10));
            Check.due("bears " + sign + " 1 )", Check.tell(new ShoeOrchard(), "bears " + sign + " 1 ) ;"),
                    sign == '(' ? 0 : sign >= '0' && sign <= '9' ? 1 + 16 * 8 : 1 + 16 * 6);
        }
    }

    private static void allElse() {
        Sentence.of("3 4", "All else (a longer WORD or NUMBER, too, at its first sign) is none");
        Check.orchardFault(1, "tree ^abcdefghi boot last 3 age 2 ;");
        Check.orchardFault(1, "^pinchnoons 1 ;");
        Check.orchardFault(1, "tree a boot last ^12345 age 2 ;");
        Check.orchardFault(1, "tree a ^Boot last 3 age 2 ;");
        Check.orchardFault(1, "tree a^_b boot last 3 age 2 ;");
        Check.orchardFault(1, "pinch 1^.5 ;");
        Check.orchardFault(1, "pinch 1 ^: noon 7 ;");
        Check.orchardFault(1, "pinch 1 ; ^~");
        Check.morningFault(1, "", "^! year ;");
        Check.morningFault(1, "", "year^. year ;");
        Check.morningFault(1, "", "try ^abcdefghi abcdefghi ;");
        Check.morningFault(1, "", "try ^12345 ;");
    }
}
