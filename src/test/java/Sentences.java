import java.util.Arrays;
import java.util.LinkedHashMap;
import java.util.List;
import java.util.Map;
import java.util.function.Supplier;
import java.util.function.ToLongFunction;

/** Tests that stand each under a sentence of the document; at the end no sentence may be without one. */
final class Sentences {
    private final Due due = new Due();
    private final Map<String, Integer> asked = new LinkedHashMap<>();
    private String sentence = "";

    void begin(String head, String text) {
        sentence = Document.told(head, text);
        due.holds("told twice: " + sentence, asked.put(sentence, 0) == null);
    }

    void terms(String text) {
        begin("Terms", text);
    }

    void promise(int number, String text) {
        begin("Promise " + number, text);
    }

    void due(String what, long got, long want) {
        asked.merge(sentence, 1, Integer::sum);
        due.due(sentence + " .. " + what, got, want);
    }

    void holds(String what, boolean is) {
        asked.merge(sentence, 1, Integer::sum);
        due.holds(sentence + " .. " + what, is);
    }

    /** The call answers this finding, is counted under it once, and changes nothing else, nor what is kept. */
    void refused(String what, Supplier<DownhillPost> land, ToLongFunction<DownhillPost> call, long finding) {
        DownhillPost x = land.get();
        due(what, call.applyAsLong(x), finding);
        long[] counted = Readings.findings(x);
        DownhillPost twin = land.get();
        long[] want = Readings.findings(twin);
        want[0]++;
        want[(int) (Due.BEYOND - finding) + 1]++;
        holds(what + " is counted " + Arrays.toString(counted), Arrays.equals(counted, want));
        sameAs(what, x, twin);
        DownhillPost undone = land.get();
        call.applyAsLong(undone);
        sameKept(what, undone, land.get());
    }

    /** The call answers this, which is no finding, and changes nothing at all. */
    void onlyAsks(String what, Supplier<DownhillPost> land, ToLongFunction<DownhillPost> call, long answer) {
        DownhillPost x = land.get();
        due(what, call.applyAsLong(x), answer);
        DownhillPost twin = land.get();
        holds(what + " is no finding", Arrays.equals(Readings.findings(x), Readings.findings(twin)));
        sameAs(what, x, twin);
        DownhillPost undone = land.get();
        call.applyAsLong(undone);
        sameKept(what, undone, land.get());
    }

    void sameAs(String what, DownhillPost x, DownhillPost twin) {
        List<Long> got = Readings.of(x);
        List<Long> want = Readings.of(twin);
        holds(what + " changes something: " + got + " for " + want, got.equals(want));
    }

    private void sameKept(String what, DownhillPost x, DownhillPost twin) {
        due(what + ", undone", x.undo(), twin.undo());
        sameAs(what + ", undone", x, twin);
    }

    /** Each sentence has its test, and each test a sentence. */
    void end(List<String> sentences) {
        for (String one : sentences) {
            due.holds("without a test: " + one, asked.getOrDefault(one, 0) > 0);
        }
        for (String one : asked.keySet()) {
            due.holds("not in the document: " + one, sentences.contains(one));
        }
        due.holds("the document has sentences", !sentences.isEmpty());
        due.end("EdgesTest, " + sentences.size() + " sentences");
    }
}
