import java.io.IOException;
import java.nio.charset.StandardCharsets;
import java.nio.file.Files;
import java.nio.file.Path;
import java.util.ArrayList;
import java.util.HashMap;
import java.util.LinkedHashMap;
import java.util.List;
import java.util.Map;
import java.util.Set;
import java.util.TreeSet;

/**
 * What the tests of edges share: each test is of one sentence, told in the document's own words; a refused call is
 * looked at from all sides, whether it changed anything; a range is tried at both its ends and just outside.
 */
final class Edges {
    static final int BAD = -1, FULL = -2, NONE = -3, STATE = -4;
    static final int MISSING = -11, OUTSIDE = -12, OTHER_SORT = -13, SIZE_BELOW_ZERO = -14, PARTED_BY_ZERO = -15;
    static final int LOW = Integer.MIN_VALUE, HIGH = Integer.MAX_VALUE;
    static final int CLERK = 0, LIMPER = 1, RUNNER = 2, CHIEF = 3, PORTER = 4, BOY = 5;
    static final int TERMS = 0, PROMISES = 44;

    private static final int MOST_CALLS = 512;
    private static final Path DOCUMENT = Path.of("../shared/DOC.md");

    interface Call {
        int on(OneStair x);
    }

    interface CallWith {
        int on(OneStair x, int v);
    }

    /** The answers to some calls on an object that nobody uses any more behind that. */
    private interface Look {
        List<Integer> at(OneStair x);
    }

    private final String document;
    private final Map<String, List<Look>> looks = new LinkedHashMap<>();
    private final Map<Scene, Map<String, List<Integer>>> seenBefore = new HashMap<>();
    private final Set<Integer> promises = new TreeSet<>();
    private String sentence = "";
    private int sentences = 0;
    private int wrong = 0;

    Edges() {
        document = read();
        looks.put("people", List.of(Edges::people));
        looks.put("hats", hatLooks());
        looks.put("room", List.of(x -> List.of(x.room(1))));
        looks.put("minute", List.of(x -> List.of(x.minute())));
        looks.put("z", List.of(x -> List.of(x.seed(0))));
        looks.put("rows", List.of(Edges::rows));
        looks.put("sheets", List.of(Edges::sheets));
        looks.put("shelves", List.of(Edges::shelves));
        looks.put("trace", List.of(Edges::trace));
        looks.put("tape", List.of(Edges::tape));
        looks.put("kept", List.of(x -> kept(x, 0), x -> kept(x, 3), x -> kept(x, 6)));
    }

    private static String read() {
        try {
            return Files.readString(DOCUMENT).replaceAll("\\s+", " ");
        } catch (IOException e) {
            throw new IllegalStateException("there is no " + DOCUMENT, e);
        }
    }

    // ---- sentences

    /** Begins the test of a sentence; words that the document does not say there are wrong themselves. */
    void sentence(int promise, String words) {
        sentence = (promise == TERMS ? "Terms" : "promise " + promise) + ", \"" + words + "\"";
        sentences++;
        promises.add(promise);
        String from = promise == TERMS ? "## Terms" : "## Promise " + promise + ":";
        String to = promise == PROMISES ? "## Not promised" : "## Promise " + (promise + 1) + ":";
        int begin = document.indexOf(from);
        int end = document.indexOf(to);
        boolean said = begin >= 0 && end > begin && document.substring(begin, end).contains(words);
        check(said, "the document does not say so");
    }

    /** Words ahead of the Terms. */
    void sentenceOfTheHead(String words) {
        sentence = "head, \"" + words + "\"";
        sentences++;
        check(document.substring(0, Math.max(0, document.indexOf("## Terms"))).contains(words),
            "the document does not say so");
    }

    void allOf(int first, int last) {
        for (int promise = first; promise <= last; promise++) {
            sentence = "promise " + promise;
            check(promises.contains(promise), "no sentence of it is tested");
        }
    }

    void end() {
        System.out.println(wrong == 0 ? sentences + " sentences hold" : wrong + " answers are not as due");
        if (wrong != 0) {
            System.exit(1);
        }
    }

    // ---- what is due

    private void check(boolean right, String told) {
        if (!right) {
            wrong++;
            System.out.println(sentence + ": " + told);
        }
    }

    void due(String call, int got, int want) {
        check(got == want, call + " answered " + got + ", due is " + want);
    }

    void people(OneStair x, int what, int... want) {
        for (int p = 0; p < want.length; p++) {
            due("personOf(" + p + ", " + what + ")", x.personOf(p, what), want[p]);
        }
    }

    void bodies(OneStair x, int... want) {
        due("many(5)", x.many(5), want.length);
        for (int i = 0; i < want.length; i++) {
            due("trace(" + i + ")", x.trace(i), want[i]);
        }
        due("trace(" + want.length + ")", x.trace(want.length), NONE);
    }

    /** A refusal, or a question: the answer is due, and nothing is another than it was. */
    void changesNothing(Scene scene, String call, int want, Call c) {
        changesOnly(scene, call, want, c);
    }

    /** Of all that can be seen, these parts are others behind the call, and no more. */
    void changesOnly(Scene scene, String call, int want, Call c, String... parts) {
        OneStair x = scene.made();
        due(scene.name + call, c.on(x), want);
        Map<String, List<Integer>> before = seenBefore.computeIfAbsent(scene, s -> seen(s, null));
        Map<String, List<Integer>> behind = seen(scene, c);
        Set<String> changed = Set.of(parts);
        for (String part : looks.keySet()) {
            boolean same = before.get(part).equals(behind.get(part));
            check(same || changed.contains(part), scene.name + call + " changed the " + part);
            check(!same || !changed.contains(part), scene.name + call + " left the " + part + " as it was");
        }
    }

    /** All from least to most is taken; what is just outside, or far, is refused and changes nothing. */
    void range(Scene scene, String call, int least, int most, int refusal, CallWith c) {
        for (int v = least; v <= most; v++) {
            int got = c.on(scene.made(), v);
            check(got != refusal, scene.name + call + " with " + v + " is refused");
        }
        int[] outside = {least - 1, most + 1, LOW, HIGH};
        for (int v : outside) {
            changesNothing(scene, call + " with " + v, refusal, x -> c.on(x, v));
        }
    }

    // ---- looks

    private Map<String, List<Integer>> seen(Scene scene, Call call) {
        Map<String, List<Integer>> seen = new HashMap<>();
        looks.forEach((part, ofPart) -> {
            List<Integer> answers = new ArrayList<>();
            for (Look look : ofPart) {
                answers.addAll(seen(scene, call, look));
            }
            seen.put(part, answers);
        });
        return seen;
    }

    /** What an object answers is free behind so many calls: so each look is at an object of its own. */
    private static List<Integer> seen(Scene scene, Call call, Look look) {
        OneStair x = scene.made();
        if (call != null) {
            call.on(x);
        }
        List<Integer> answers = look.at(x);
        if (scene.size() + 1 + answers.size() > MOST_CALLS) {
            throw new IllegalStateException("too many calls of one object");
        }
        return answers;
    }

    private static List<Integer> people(OneStair x) {
        List<Integer> answers = new ArrayList<>(List.of(x.many(0), x.many(2)));
        for (int p = 0; p < 9; p++) {
            for (int what = 0; what < 9; what++) {
                answers.add(x.personOf(p, what));
            }
        }
        return answers;
    }

    /** The hats are told from one another by what is closed when the first ones are swept. */
    private static List<Look> hatLooks() {
        List<Look> hatLooks = new ArrayList<>();
        for (int k = 0; k <= 4; k++) {
            int swept = k;
            for (int f = 0; f < 9; f += 3) {
                int flight = f;
                hatLooks.add(x -> hats(x, swept, flight));
            }
        }
        return hatLooks;
    }

    private static List<Integer> hats(OneStair x, int swept, int firstFlight) {
        List<Integer> answers = new ArrayList<>();
        for (int i = 0; i < swept; i++) {
            answers.add(x.sweep(0));
        }
        answers.add(x.many(1));
        answers.addAll(closed(x, firstFlight));
        return answers;
    }

    private static List<Integer> closed(OneStair x, int firstFlight) {
        List<Integer> answers = new ArrayList<>();
        for (int flight = firstFlight; flight < firstFlight + 3; flight++) {
            for (int minute = 0; minute < 100; minute++) {
                answers.add(x.closed(flight, minute));
            }
        }
        return answers;
    }

    private static List<Integer> rows(OneStair x) {
        List<Integer> answers = new ArrayList<>(List.of(x.many(3)));
        for (int i = 0; i < 21; i++) {
            for (int what = 0; what < 3; what++) {
                answers.add(x.row(i, what));
            }
        }
        return answers;
    }

    private static List<Integer> sheets(OneStair x) {
        List<Integer> answers = new ArrayList<>();
        for (int sheet = 0; sheet < 4; sheet++) {
            int sort = 0;
            for (int s = 0; s < 4; s++) {
                int first = x.item(sheet, s, 40);
                answers.add(first);
                sort = first == OUTSIDE ? s : sort;
            }
            for (int i = 0; i < 40; i++) {
                answers.add(x.item(sheet, sort, i));
            }
        }
        return answers;
    }

    private static List<Integer> shelves(OneStair x) {
        List<Integer> answers = new ArrayList<>();
        for (int shelf = 0; shelf < 4; shelf++) {
            for (int as = 0; as < 14; as++) {
                answers.add(x.taken(shelf, as));
            }
        }
        return answers;
    }

    private static List<Integer> trace(OneStair x) {
        List<Integer> answers = new ArrayList<>(List.of(x.many(5)));
        for (int i = 0; i < 31; i++) {
            answers.add(x.trace(i));
        }
        return answers;
    }

    /** The tape of every scene holds a text without a fault, so what is seen behind it is of the tape alone. */
    private static List<Integer> tape(OneStair x) {
        List<Integer> answers = new ArrayList<>(List.of(x.many(4), x.tower(), x.many(4), x.many(1), x.room(1)));
        answers.addAll(people(x));
        answers.addAll(closed(x, 0));
        return answers;
    }

    private static List<Integer> kept(OneStair x, int firstFlight) {
        List<Integer> answers = new ArrayList<>(List.of(x.again()));
        if (answers.get(0) == NONE) {
            return answers;
        }
        answers.addAll(List.of(x.minute(), x.many(1), x.room(1), x.seed(0)));
        answers.addAll(firstFlight == 0 ? people(x) : List.of());
        answers.addAll(closed(x, firstFlight));
        return answers;
    }

    // ---- objects

    static int feed(OneStair x, byte[] bytes) {
        int answer = x.many(4);
        for (int from = 0; from < bytes.length; from += 8) {
            int n = Math.min(8, bytes.length - from);
            answer = x.feed(eight(bytes, from, n), n);
        }
        return answer;
    }

    static int feed(OneStair x, String text) {
        return feed(x, text.getBytes(StandardCharsets.ISO_8859_1));
    }

    static long eight(byte[] bytes, int from, int n) {
        long eight = 0;
        for (int i = 0; i < n; i++) {
            eight |= (bytes[from + i] & 0xffL) << (8 * i);
        }
        return eight;
    }

    static int tower(OneStair x, String text) {
        feed(x, text);
        return x.tower();
    }

    static OneStair of(String text) {
        OneStair x = new OneStair();
        if (tower(x, text) < 0) {
            throw new IllegalArgumentException(text);
        }
        return x;
    }

    // ---- scenes

    /** Calls on a new object, from which a test goes on. */
    static final class Scene {
        private final String name;
        private final List<Call> calls = new ArrayList<>();

        Scene(String name) {
            this.name = name + ": ";
        }

        Scene with(Call... more) {
            calls.addAll(List.of(more));
            return this;
        }

        /** Another scene, that goes on from this one. */
        Scene and(String how, Call... more) {
            Scene longer = new Scene(name + how);
            longer.calls.addAll(calls);
            return longer.with(more);
        }

        Scene withTape(String text) {
            byte[] bytes = text.getBytes(StandardCharsets.ISO_8859_1);
            for (int from = 0; from < bytes.length; from += 8) {
                int n = Math.min(8, bytes.length - from);
                long eight = eight(bytes, from, n);
                calls.add(x -> x.feed(eight, n));
            }
            return this;
        }

        int size() {
            return calls.size();
        }

        OneStair made() {
            OneStair x = new OneStair();
            for (Call call : calls) {
                call.on(x);
            }
            return x;
        }
    }

    static final Scene NEW = new Scene("a new one");

    /**
     * In the midst of all: of four people one has ARRIVED, one is halfway up a flight, one has not set out, one came
     * later than what is kept; three hats; rows, one of them altered; three sheets and one missing; a trace; a tape.
     */
    static final Scene SOME = new Scene("some")
        .withTape("clerk 3 from 0 to 2;limper 1 from 5 to 9;runner 2 from 9 to 0 at 4;hat 3 at 1 for 3;"
            + "hat 6 at 9 for 30;room 3;")
        .with(x -> x.tower(), x -> x.minutes(3), x -> x.seed(77), x -> x.keep(), x -> x.hat(0, 50, 2),
            x -> x.person(BOY, 1, 4, 8), x -> x.room(4), x -> x.seed(-5), x -> x.prove(5), x -> x.alterRow(2, 1, -7))
        .with(x -> x.sheet(0, 0, 5), x -> x.put(0, 0, -3), x -> x.put(0, 4, 100), x -> x.sheet(1, 1, 4),
            x -> x.put(1, 0, -1), x -> x.put(1, 1, 100), x -> x.put(1, 2, 50), x -> x.put(1, 3, 99),
            x -> x.sheet(2, 2, 3), x -> x.put(2, 2, HIGH))
        .with(x -> x.shelf(0, 0, 1), x -> x.shelf(1, 1, 1), x -> x.shelf(3, 0, 3), x -> x.act(0, 3, 5))
        .withTape("boy 1 from 2 to 3;hat 1 at 2 for 3;room 7;");

    /** As many people, hats, bytes, rows and items as there may be. */
    static final Scene BRIM = new Scene("full")
        .withTape("chief 1 from 0 to 9;porter 5 from 0 to 3;clerk 0 from 9 to 0;limper 2 from 4 to 4;"
            + "boy 3 from 1 to 7;runner 0 from 8 to 1;clerk 9 from 3 to 9;porter 4 from 6 to 0 at 9;"
            + "hat 8 at 9 for 30;hat 2 at 3 for 4;hat 5 at 5 for 5;hat 0 at 90 for 2;")
        .with(x -> x.tower(), x -> x.minutes(2), x -> x.keep(), x -> x.prove(20))
        .with(x -> x.sheet(0, 0, 40), x -> x.sheet(1, 1, 40), x -> x.sheet(2, 2, 40), x -> x.sheet(3, 3, 40))
        .with(x -> x.put(0, 39, 1), x -> x.put(1, 39, 2), x -> x.put(2, 39, 3), x -> x.put(3, 39, LOW))
        .with(x -> x.shelf(0, 0, 7), x -> x.shelf(1, 1, 0), x -> x.shelf(2, 0, 0), x -> x.shelf(3, 1, 3))
        .with(x -> x.act(2, 3, 9))
        .withTape("boy 1 from 2 to 3;hat 1 at 2 for 3;room 7;" + " ".repeat(198));

    static final Scene LATE = SOME.and("in the end", x -> x.clock(120));
}
