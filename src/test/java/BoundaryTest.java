/** Each sentence of the document that names a boundary case, by its promise. */
public final class BoundaryTest extends Sentences {
    public static void main(String[] args) {
        TapeBoundaries.run();
        TextBoundaries.run();
        LawBoundaries.run();
        ShellBoundaries.run();
        LightBoundaries.run();
        StepBoundaries.run();
        EventBoundaries.run();
        BookBoundaries.run();
        ToneBoundaries.run();
        FitBoundaries.run();
        ImageBoundaries.run();
        TermBoundaries.run();
        ToneTermBoundaries.run();
        allAreQuoted();
        everyTermIsQuoted();
        finish();
    }
}
