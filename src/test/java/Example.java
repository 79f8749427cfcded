public final class Example {
    public static void main(String[] args) {
        ShoeOrchard valley = new ShoeOrchard();

        // An ORCHARD is fed, then read; TREES and PERSONS have the numbers 0, 1, .. as told.
        feed(valley, "tree oak brogue last 10 age 5 ; tree ash boot last 14 age 2 ; ");
        feed(valley, "person ann plain feet 10 ; person bob child feet 11 ; person cid old feet 12 ; ");
        feed(valley, "pinch 1 ; noon 2 ; frost 0 2 ; bears size + chill ;");
        System.out.println("fault " + valley.orchard());
        System.out.println("oak fits, as bits, " + valley.wearers(0));
        System.out.println("shod at most " + valley.shoes(ShoeOrchard.NONE));

        // A morning by hand; what was done can be undone, and gone back to by a MARK.
        valley.mark(0, false);
        System.out.println("bob tries ash: " + valley.tryOn(1, 1));
        System.out.println("bob tries oak: " + valley.tryOn(1, 0));
        System.out.println("ann shares with him: " + valley.share(1, 0));
        System.out.println("road of all " + valley.count(8));
        System.out.println("undone: " + valley.undo() + ", ann is shod by " + valley.person(0, 2));
        System.out.println("year " + valley.year() + ", oak bears " + valley.tree(0, 3) + ", ash " + valley.tree(1, 3));
        System.out.println("back: " + valley.mark(0, true) + ", year " + valley.count(4));

        // A MORNING that is told is judged, and does nothing by itself.
        feed(valley, "try bob ash ; try ann oak ; share ann bob ; try cid oak ;");
        System.out.println("fault " + valley.morning());
        System.out.println("can't be: line " + valley.judged(0) + ", pinched: line " + valley.judged(1) + ", road " + valley.judged(2));

        // A FAULT is kind + 16 * place; all stays as it was.
        feed(valley, "try ann elm ;");
        int fault = valley.morning();
        System.out.println("fault of kind " + fault % 16 + " at place " + fault / 16);

        // One call throws: RESTS of which there is none such.
        try {
            System.out.println("rests " + valley.rests(5, 2, 3, ShoeOrchard.NONE) + ", the second " + valley.rests(5, 2, 3, 1));
            valley.rests(5, 2, 3, 2);
        } catch (java.util.NoSuchElementException e) {
            System.out.println("there is no third");
        }
    }

    /** 24 signs a call, 8 a long, the first in the highest byte; bytes of 0 behind the end are left out. */
    private static void feed(ShoeOrchard valley, String text) {
        for (int from = 0; from < text.length(); from += 24) {
            valley.feed(eight(text, from), eight(text, from + 8), eight(text, from + 16));
        }
    }

    private static long eight(String text, int from) {
        long bytes = 0;
        for (int i = from; i < from + 8; i++) {
            bytes = bytes << 8 | (i < text.length() ? text.charAt(i) : 0);
        }
        return bytes;
    }
}
