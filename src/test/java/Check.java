import java.util.Arrays;
import java.util.function.Supplier;
import java.util.function.ToIntFunction;

/** Counts the answers of one test that are not the ones that are due. */
final class Check {
    private final String name;
    private String words = "";
    private int cases;
    private int looked;
    private int lookedBefore;
    private int wrong;

    Check(String name) {
        this.name = name;
    }

    /** The answers from here on are about these words of this promise. */
    void on(int promise, String itsWords) {
        endCase();
        cases++;
        words = ", promise " + promise + " (" + itsWords + ")";
    }

    void due(String call, int got, int want) {
        looked++;
        if (got != want) {
            wrong++;
            System.out.println(name + words + ": " + call + " answered " + got + ", due is " + want);
        }
    }

    void due(String call, boolean got, boolean want) {
        due(call, got ? 1 : 0, want ? 1 : 0);
    }

    /** The call answers NONE, and its yard goes on like one that was made alike and not asked. */
    void refused(String call, Supplier<HuskYard> made, ToIntFunction<HuskYard> asked) {
        HuskYard yard = made.get();
        due(call, asked.applyAsInt(yard), -1);
        due("a change by the refused " + call, Arrays.equals(Yards.told(yard), Yards.told(made.get())),
                true);
    }

    int looked() {
        return looked;
    }

    int wrong() {
        return wrong;
    }

    /** Ends the program with 1 if an answer was wrong, or if a case looked at none. */
    void end() {
        endCase();
        String counted = cases > 0 ? cases + " cases, " : "";
        System.out.println(name + ": " + counted + looked + " answers, " + wrong + " wrong");
        if (wrong != 0 || looked == 0) {
            System.exit(1);
        }
    }

    /** A case that asks nothing would hold whatever the class does: it counts as wrong. */
    private void endCase() {
        if (cases > 0 && looked == lookedBefore) {
            wrong++;
            System.out.println(name + words + ": no answer was looked at");
        }
        lookedBefore = looked;
    }
}
