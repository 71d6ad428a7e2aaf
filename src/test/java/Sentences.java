import java.util.ArrayList;
import java.util.List;

/** Runs tests that each bear a promise's number and a sentence of the document. */
final class Sentences {
    private static final int CALLS_OF_AN_OBJECT = 512;

    /** How many calls {@link #usedAndMadeAnew} makes. */
    private static final int COST_OF_USE = 149;

    private final Calls calls;
    private final Document document;
    private List<String> lastRun = List.of();

    Sentences(Calls calls, Document document) {
        this.calls = calls;
        this.document = document;
    }

    /** The rows, which {@link Rows} writes out, are calls on a new object. */
    void says(int promise, String sentence, String... rows) {
        String name = promise + " \"" + sentence + "\"";
        calls.holds(name + " stands in the document", document.says(promise, sentence));
        List<String> texts = Rows.all(rows);
        List<Calls.Call> run = new ArrayList<>();
        int count = 0;
        for (String text : texts) {
            Calls.Call call = Calls.Call.of(text);
            run.add(call);
            count += call.count();
        }
        calls.holds(name + " has " + count + " calls, too many", count + Twins.COST_OF_A_LOOK <= CALLS_OF_AN_OBJECT);
        made(new SleepingRooms(), name, texts);
        made(almostUsedUp(count), name + ", up to the 512th call", texts);
        if (count + COST_OF_USE <= CALLS_OF_AN_OBJECT) {
            made(usedAndMadeAnew(), name + ", after anew (promise 10)", texts);
        }
        besideTheLastRun(name, texts);
        Twins.compare(calls, name, run);
    }

    private void made(SleepingRooms x, String name, List<String> texts) {
        for (String text : texts) {
            calls.on(x, name, text);
        }
    }

    /** Two objects that are used by turns must not touch one another. */
    private void besideTheLastRun(String name, List<String> texts) {
        SleepingRooms x = new SleepingRooms();
        SleepingRooms other = new SleepingRooms();
        for (int i = 0; i < Math.max(texts.size(), lastRun.size()); i++) {
            if (i < lastRun.size()) {
                calls.on(other, name + ", beside it the run before (promise 1)", lastRun.get(i));
            }
            if (i < texts.size()) {
                calls.on(x, name + ", beside another object (promise 1)", texts.get(i));
            }
        }
        lastRun = texts;
    }

    /** An object that has got calls that leave it as it was made, and has as many left as the run needs. */
    private static SleepingRooms almostUsedUp(int left) {
        SleepingRooms x = new SleepingRooms();
        for (int i = 0; i < CALLS_OF_AN_OBJECT - left; i++) {
            changeNothing(x, i % 12);
        }
        return x;
    }

    private static void changeNothing(SleepingRooms x, int kind) {
        switch (kind) {
            case 0: x.room(0, 4); break;
            case 1: x.near(5, 5, 1); break;
            case 2: x.scene(0, 1, 2, 3); break;
            case 3: x.key(128); break;
            case 4: x.line(); break;
            case 5: x.way(0, 5, SleepingRooms.NONE); break;
            case 6: x.mend(); break;
            case 7: x.plan(0, 0); break;
            case 8: x.wipe(); break;
            case 9: x.anew(); break;
            case 10: x.blank(); break;
            default: x.many(5); break;
        }
    }

    /** An object that was full of everything must answer like a new one. */
    private static SleepingRooms usedAndMadeAnew() {
        SleepingRooms x = new SleepingRooms();
        for (int c = 0; c < 8; c++) {
            x.scene(1 + c % 3, c / 3, c % 2 * 3, 3 - c % 4);
        }
        for (int n = 0; n < 16; n++) {
            x.net(n % 6, (n + 1 + n / 6) % 6);
            x.guard(n, n % 2, 3 - n % 4);
            x.lift(n, 1 + n % 3);
        }
        for (int r = 0; r < 6; r++) {
            x.room(r, 3 - r % 3);
            x.keep(r, 9 - r, 1 + r % 3);
            for (int other = 0; other < r; other++) {
                x.near(r, other, 1);
            }
        }
        for (int k = 0; k < 40; k++) {
            x.step(k % 5, k % 4, k % 3);
        }
        for (int i = 0; i < 24; i++) {
            x.key("scene 1 2 3 3 keep 1 2 3".charAt(i));
        }
        x.anew();
        x.blank();
        return x;
    }
}
