import java.util.NoSuchElementException;

/** What the tests share: feeding texts, and counting the answers that are not the ones due. */
final class Check {
    private static int asked = 0;
    private static int wrong = 0;
    /** What the answers that follow are asked for; it stands before each that is not as due. */
    private static String about = "";

    private Check() {
    }

    static void about(String what) {
        about = what;
    }

    static void due(String what, long got, long want) {
        asked++;
        if (got != want) {
            wrong++;
            System.out.println(about + what + " answered " + got + ", due is " + want);
        }
    }

    static void due(String what, boolean got, boolean want) {
        due(what, got ? 1 : 0, want ? 1 : 0);
    }

    /** Each of a row of answers. */
    static void dueRow(String what, int[] got, int... want) {
        due(what + ".length", got.length, want.length);
        for (int i = 0; i < Math.min(got.length, want.length); i++) {
            due(what + "[" + i + "]", got[i], want[i]);
        }
    }

    /** Feeds a text, 24 signs a call; how many signs are on the tape then. */
    static int feed(ShoeOrchard orchard, String text) {
        int there = orchard.count(12);
        for (int from = 0; from < text.length(); from += 24) {
            there = orchard.feed(packed(text, from), packed(text, from + 8), packed(text, from + 16));
        }
        return there;
    }

    static long packed(String text, int from) {
        long bytes = 0;
        for (int i = from; i < from + 8; i++) {
            bytes = bytes << 8 | (i < text.length() ? text.charAt(i) : 0);
        }
        return bytes;
    }

    static int tell(ShoeOrchard orchard, String text) {
        feed(orchard, text);
        return orchard.orchard();
    }

    static int tellMorning(ShoeOrchard orchard, String text) {
        feed(orchard, text);
        return orchard.morning();
    }

    /** A new object with this ORCHARD, which must be without a FAULT. */
    static ShoeOrchard of(String text) {
        ShoeOrchard orchard = new ShoeOrchard();
        due("orchard of " + text, tell(orchard, text), 0);
        return orchard;
    }

    /** The FAULT's kind, at the place of the sign ^ in the text (which is left out), 0: none. */
    private static int faultOf(int kind, String text) {
        return kind == 0 ? 0 : kind + 16 * text.indexOf('^');
    }

    static void orchardFault(int kind, String text) {
        due("orchard " + text, tell(new ShoeOrchard(), text.replace("^", "")), faultOf(kind, text));
    }

    /** Of a MORNING of the ORCHARD told. */
    static void morningFault(int kind, String told, String text) {
        due("morning " + text, tellMorning(of(told), text.replace("^", "")), faultOf(kind, text));
    }

    /** What rests answers, -99 where it throws what it should. */
    static int rests(ShoeOrchard orchard, int both, int loses, int gets, int what) {
        try {
            return orchard.rests(both, loses, gets, what);
        } catch (NoSuchElementException e) {
            return -99;
        }
    }

    static void end() {
        System.out.println(asked + " answers, " + wrong + " not as due");
        if (wrong != 0 || asked == 0) {
            System.exit(1);
        }
    }
}
