import java.util.ArrayList;
import java.util.List;

/** Runs tests that each bear a promise's number and a sentence of the document. */
final class Sentences {
    private static final int CALLS_OF_AN_OBJECT = 512;

    private final Calls calls;
    private final Document document;

    Sentences(Calls calls, Document document) {
        this.calls = calls;
        this.document = document;
    }

    /** The rows, which {@link Rows} writes out, are calls on a new object. */
    void says(int promise, String sentence, String... rows) {
        String name = promise + " \"" + sentence + "\"";
        calls.holds(name + " stands in the document", document.says(promise, sentence));
        SleepingRooms x = new SleepingRooms();
        List<Calls.Call> run = new ArrayList<>();
        int made = 0;
        for (String row : Rows.all(rows)) {
            Calls.Call call = Calls.Call.of(row);
            calls.on(x, name, row);
            run.add(call);
            made += call.count();
        }
        calls.holds(name + " has " + made + " calls, too many", made + Twins.COST_OF_A_LOOK <= CALLS_OF_AN_OBJECT);
        Twins.compare(calls, name, run);
    }
}
