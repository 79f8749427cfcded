/** Each sentence of the document that names a boundary case, in a method of its own (see Sentence). */
public final class EdgesTest {
    public static void main(String[] args) {
        TapeEdges.run();
        LanguageEdges.run();
        FormulaEdges.run();
        FaultEdges.run();
        BearingEdges.run();
        DoingEdges.run();
        JudgingEdges.run();
        FittingEdges.run();
        GuessingEdges.run();
        ChanceEdges.run();
        CallEdges.run();
        Sentence.end();
        Check.end();
    }
}
