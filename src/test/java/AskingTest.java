import java.util.List;
import java.util.function.Consumer;

/** Promises 6, 8 and 10 to 15: a call that only asks leaves everything as it was. */
public final class AskingTest {
    private static final List<Consumer<ScriptText>> QUESTIONS = List.of(
        x -> x.isNormal(0, 3), x -> x.isNormal(1, 0), x -> x.result(0), x -> x.result(5), x -> x.breaks(0, 0),
        x -> x.breaks(1, 1), x -> x.level(0, 0, 3), x -> x.level(1, 1, 2), x -> x.onPage(0, 1, 3),
        x -> x.onPage(1, 0, 0), x -> x.key(0, 1, 2), x -> x.key(1, 3, 0), x -> x.compare(1), x -> x.compare(4),
        x -> x.search(1), x -> x.search(4));

    public static void main(String[] args) {
        Due due = new Due();
        for (Views.View view : Views.all()) {
            String ofDescribed = view.read().apply(Views.described());
            String ofFull = view.read().apply(Views.full());
            for (int i = 0; i < QUESTIONS.size(); i++) {
                ScriptText described = Views.described();
                QUESTIONS.get(i).accept(described);
                due.is(view.name() + " behind question " + i, view.read().apply(described), ofDescribed);
                ScriptText full = Views.full();
                QUESTIONS.get(i).accept(full);
                due.is(view.name() + " behind question " + i, view.read().apply(full), ofFull);
            }
        }
        due.end("AskingTest");
    }
}
