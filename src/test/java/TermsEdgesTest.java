/** The sentences of the Terms that name a boundary, each tested by itself. */
public final class TermsEdgesTest {
    private static final int BAD = Edges.BAD, NONE = Edges.NONE, LOW = Edges.LOW, HIGH = Edges.HIGH;
    private static final Edges edges = new Edges();

    private static void sentence(String words) {
        edges.sentence(Edges.TERMS, words);
    }

    private static void due(String call, int got, int want) {
        edges.due(call, got, want);
    }

    private static OneStair of(String text) {
        return Edges.of(text);
    }

    private static OneStair behind(int minutes, String text) {
        OneStair x = of(text);
        x.minutes(minutes);
        return x;
    }

    // ---- refusals

    /** A call with four numbers, of which it uses as many as it likes. */
    private interface Wild {
        int on(OneStair x, int p, int q, int r, int s);
    }

    private static final Wild[] REFUSING = {(x, p, q, r, s) -> x.feed(p, q), (x, p, q, r, s) -> x.room(p),
        (x, p, q, r, s) -> x.hat(p, q, r), (x, p, q, r, s) -> x.sweep(p), (x, p, q, r, s) -> x.closed(p, q),
        (x, p, q, r, s) -> x.person(p, q, r, s), (x, p, q, r, s) -> x.personOf(p, q),
        (x, p, q, r, s) -> x.mind(p, q, r), (x, p, q, r, s) -> x.sends(p, q, r), (x, p, q, r, s) -> x.stand(p, q),
        (x, p, q, r, s) -> x.minutes(p), (x, p, q, r, s) -> x.clock(p), (x, p, q, r, s) -> x.when(p),
        (x, p, q, r, s) -> x.last(), (x, p, q, r, s) -> x.waited(p), (x, p, q, r, s) -> x.crowd(p),
        (x, p, q, r, s) -> x.there(p, q), (x, p, q, r, s) -> x.drill(), (x, p, q, r, s) -> x.early(p, q),
        (x, p, q, r, s) -> x.swap(), (x, p, q, r, s) -> x.enough(p), (x, p, q, r, s) -> x.worst(p),
        (x, p, q, r, s) -> x.rent(p), (x, p, q, r, s) -> x.lot(p), (x, p, q, r, s) -> x.prove(p),
        (x, p, q, r, s) -> x.row(p, q), (x, p, q, r, s) -> x.alterRow(p, q, r),
        (x, p, q, r, s) -> x.starts(p, q, r, s), (x, p, q, r, s) -> x.sheet(p, q, r),
        (x, p, q, r, s) -> x.put(p, q, r), (x, p, q, r, s) -> x.item(p, q, r), (x, p, q, r, s) -> x.shelf(p, q, r),
        (x, p, q, r, s) -> x.taken(p, q), (x, p, q, r, s) -> x.trace(p), (x, p, q, r, s) -> x.many(p),
        (x, p, q, r, s) -> x.again()};

    /** Numbers in and out of all ranges, for calls in all scenes: whichever are refused leave all as it was. */
    private static void refusalsChangeNothing() {
        sentence("Answers below 0, where not told otherwise, are refusals; such a call changes nothing");
        int[] numbers = {0, -1, 1, 2, 9, 3, 41, 4, 8, 100, 121, LOW, HIGH};
        Edges.Scene[] scenes = {Edges.NEW, Edges.SOME, Edges.BRIM, Edges.LATE};
        int refused = 0;
        for (int c = 0; c < REFUSING.length; c++) {
            for (int i = 0; i < 40; i++) {
                int p = numbers[i % numbers.length];
                int q = numbers[(5 * i + c) % numbers.length];
                int r = numbers[(7 * i + 3 * c) % numbers.length];
                int s = numbers[(3 * i + 1) % numbers.length];
                Wild call = REFUSING[c];
                Edges.Scene scene = scenes[i % 4];
                int answer = call.on(scene.made(), p, q, r, s);
                if (answer < 0 && (answer >= -4 || answer <= -9 && answer >= -14)) {
                    String told = "call " + c + " with " + p + ", " + q + ", " + r + ", " + s;
                    edges.changesNothing(scene, told, answer, x -> call.on(x, p, q, r, s));
                    refused++;
                }
            }
        }
        due("more than 400 calls were refused", refused > 400 ? 1 : 0, 1);
    }

    // ---- the stair

    private static void callsOfOneObject() {
        edges.sentenceOfTheHead("An object is used for at most 512 calls after it has been made");
        OneStair x = new OneStair();
        for (int call = 1; call <= 510; call++) {
            due("seed(" + call + ")", x.seed(call), call == 1 ? 1 : call - 1);
        }
        due("person(2, 0, 0, 9), call 511", x.person(Edges.RUNNER, 0, 0, 9), 0);
        due("when(0), call 512", x.when(0), 4);
    }

    private static void floorsAndFlights() {
        sentence("FLOORS 0 to 9; FLIGHT f is between f and f and 1 (0 to 8); each has two LANES: up and down.");
        for (int f = 0; f <= 8; f++) {
            String both = "clerk 0 from " + f + " to " + (f + 1) + ";clerk 0 from " + (f + 1) + " to " + f + ";room 1;";
            edges.people(behind(1, both), 6, 0, 0);
            due("crowd(" + f + ")", of(both).crowd(f), 1);
            for (int hat = 0; hat <= 8; hat++) {
                OneStair x = of(both);
                x.hat(hat, 0, 1);
                due("when(0), flight " + f + ", a hat on " + hat, x.when(0), hat == f ? 1 : 0);
                due("when(1), flight " + f + ", a hat on " + hat, x.when(1), hat == f ? 1 : 0);
            }
        }
        OneStair whole = of("clerk 0 from 0 to 9;clerk 0 from 9 to 0;");
        due("when(0) from 0 to 9", whole.when(0), 8);
        due("when(1) from 9 to 0", whole.when(1), 8);
    }

    private static void minuteAtFirstAndInTheEnd() {
        sentence("MINUTE is 0 at first (120 in the end).");
        OneStair x = new OneStair();
        due("minute()", x.minute(), 0);
        due("minutes(60)", x.minutes(60), 60);
        due("minutes(59)", x.minutes(59), 119);
        due("minutes(1)", x.minutes(1), 120);
        due("minutes(1)", x.minutes(1), 120);
        due("minutes(60)", x.minutes(60), 120);
        OneStair y = of("clerk 0 from 0 to 1;");
        y.clock(119);
        due("when(0) from 119 on", y.when(0), 119);
        y.clock(120);
        due("when(0) from 120 on", y.when(0), NONE);
        y.minutes(60);
        edges.people(y, 2, 0);
    }

    private static void roomOneToNine() {
        sentence("ROOM is 1 to 9 (2 at first).");
        edges.range(Edges.NEW, "room", 1, 9, BAD, (x, v) -> x.room(v));
        due("room(9)", new OneStair().room(9), 2);
        String nine = "clerk 0 from 0 to 1;".repeat(8);
        for (int room = 1; room <= 8; room++) {
            OneStair x = of(nine);
            x.room(room);
            x.minutes(1);
            due("many(2) with ROOM " + room, x.many(2), room);
        }
        edges.people(behind(1, "clerk 0 from 0 to 1;".repeat(3)), 2, 1, 1, 0);
    }

    // ---- people

    private static void eightPeople() {
        sentence("PEOPLE, 8 at most, numbered as they come");
        OneStair x = new OneStair();
        for (int p = 0; p < 8; p++) {
            due("many(0)", x.many(0), p);
            due("personOf(" + p + ", 0) ahead of it", x.personOf(p, 0), BAD);
            due("person(" + p % 6 + ", ..)", x.person(p % 6, p, p, 9 - p), p);
        }
        due("a ninth", x.person(0, 0, 0, 0), Edges.FULL);
        due("many(0)", x.many(0), 8);
        due("personOf(8, 0)", x.personOf(8, 0), BAD);
        edges.people(x, 0, 0, 1, 2, 3, 4, 5, 0, 1);
        edges.people(x, 1, 0, 1, 2, 3, 4, 5, 6, 7);
        edges.people(x, 2, 0, 1, 2, 3, 4, 5, 6, 7);
        edges.people(x, 3, 9, 8, 7, 6, 5, 4, 3, 2);
    }

    private static void kindsAndWhatTheyAreUnder() {
        sentence("a KIND: 0 clerk; 1 limper, 2 runner, 5 boy (under clerk), 4 porter (under limper), "
            + "3 chief (under runner)");
        String[] names = {"clerk", "limper", "runner", "chief", "porter", "boy"};
        int[][] above = {{0}, {0, 1}, {0, 2}, {0, 2, 3}, {0, 1, 4}, {0, 5}};
        for (int kind = 0; kind < 6; kind++) {
            OneStair x = of(names[kind] + " 0 from 0 to 0;");
            edges.people(x, 0, kind);
            x.shelf(0, 0, 0);
            for (int as = 0; as < 6; as++) {
                int want = Edges.OTHER_SORT;
                for (int k : above[kind]) {
                    want = k == as ? 0 : want;
                }
                due("taken(0, " + as + ") of a " + names[kind], x.taken(0, as), want);
            }
        }
    }

    private static void numbersOfAPerson() {
        sentence("A (0 to 9), a FLOOR where one is, a GOAL (a FLOOR), START (0 to 99: the MINUTE from which on one "
            + "goes), HALF (0, or 1 behind the first half of a FLIGHT; 0 at first), ARRIVED in a MINUTE, or not yet.");
        edges.range(Edges.SOME, "A of person", 0, 9, BAD, (x, v) -> x.person(0, v, 0, 0));
        edges.range(Edges.SOME, "FLOOR of person", 0, 9, BAD, (x, v) -> x.person(0, 0, v, 0));
        edges.range(Edges.SOME, "GOAL of person", 0, 9, BAD, (x, v) -> x.person(0, 0, 0, v));
        edges.range(Edges.SOME, "START of sends", 0, 99, BAD, (x, v) -> x.sends(0, 0, v));
        OneStair x = new OneStair();
        x.person(Edges.LIMPER, 0, 0, 1);
        edges.people(x, 5, 0);
        edges.people(x, 6, -9);
        x.minutes(1);
        edges.people(x, 5, 1);
        edges.people(x, 6, -9);
        x.minutes(1);
        edges.people(x, 5, 0);
        edges.people(x, 6, 1);
        OneStair y = new OneStair();
        y.person(Edges.CLERK, 0, 5, 5);
        y.sends(0, 5, 99);
        y.clock(98);
        y.minutes(1);
        edges.people(y, 6, -9);
        y.minutes(1);
        edges.people(y, 6, 99);
    }

    private static void startIsTheMinuteOrLess() {
        sentence("those who have not ARRIVED and whose START is the MINUTE or less");
        String[] texts = {"clerk 0 from 0 to 9 at 5;", "clerk 0 from 0 to 9 at 4;", "clerk 0 from 0 to 9 at 6;"};
        int[] want = {1, 1, 0};
        for (int i = 0; i < 3; i++) {
            OneStair x = of(texts[i]);
            x.clock(5);
            x.minutes(1);
            edges.people(x, 2, want[i]);
        }
        OneStair arrived = behind(1, "clerk 0 from 3 to 3;clerk 0 from 3 to 3;");
        arrived.stand(0, 7);
        arrived.minutes(5);
        edges.people(arrived, 2, 7, 3);
        edges.people(arrived, 6, 0, 0);
    }

    // ---- hats

    private static void fourHats() {
        sentence("HATS, 4 at most: a FLIGHT, from which MINUTE on, for how many MINUTES (1 to 30): "
            + "both its LANES are closed then.");
        edges.range(Edges.SOME, "MINUTES of hat", 1, 30, BAD, (x, v) -> x.hat(0, 0, v));
        OneStair x = new OneStair();
        for (int i = 1; i <= 4; i++) {
            due("hat " + i, x.hat(i, 0, 1), i);
        }
        due("a fifth", x.hat(5, 0, 1), Edges.FULL);
        due("closed(5, 0)", x.closed(5, 0), 0);
        int[] lengths = {1, 2, 29, 30};
        for (int n : lengths) {
            OneStair y = of("clerk 0 from 4 to 5 at 7;clerk 0 from 5 to 4 at 7;clerk 0 from 4 to 5 at 6;");
            y.hat(4, 7, n);
            due("when(0), a hat for " + n, y.when(0), 7 + n);
            due("when(1), a hat for " + n, y.when(1), 7 + n);
            due("when(2), ahead of the hat", y.when(2), 6);
        }
    }

    // ---- kinds on the stair

    private static void takes() {
        sentence("porter: as a limper, and 1 if A is 5 or more.");
        for (int a = 0; a <= 9; a++) {
            OneStair x = of("porter " + a + " from 0 to 1;");
            edges.people(x, 7, a >= 5 ? 2 : 1);
            due("crowd(0) of a porter with A " + a, x.crowd(0), a >= 5 ? 2 : 1);
            x.room(1);
            due("when(0) with ROOM 1 and A " + a, x.when(0), a >= 5 ? NONE : 1);
        }
        sentence("TAKES (ROOM that one takes in a LANE): clerk: 1. limper: as a clerk.");
        sentence("runner: as a clerk. chief: as a runner. boy: 0.");
        int[] takes = {1, 1, 1, 1, 1, 0};
        for (int kind = 0; kind < 6; kind++) {
            OneStair x = new OneStair();
            x.person(kind, 4, 0, 1);
            x.person(kind, 4, 0, 1);
            edges.people(x, 7, takes[kind], takes[kind]);
            x.clock(1);
            due("crowd(0) of kind " + kind, x.crowd(0), 2 * takes[kind]);
        }
        OneStair boys = behind(2, "boy 0 from 0 to 1;".repeat(7) + "clerk 0 from 0 to 1;room 1;");
        edges.people(boys, 6, 1, 1, 1, 1, 1, 1, 1, 0);
    }

    private static void ranks() {
        sentence("RANK: clerk: 5. limper: as a clerk, and 2. porter: as a limper, less 1. runner: as a clerk, less 1. "
            + "chief: 0. boy: as a clerk, and A.");
        int[] ranks = {5, 7, 4, 0, 6};
        for (int a = 0; a <= 9; a++) {
            for (int kind = 0; kind < 5; kind++) {
                OneStair x = new OneStair();
                x.person(kind, a, 0, 0);
                edges.people(x, 8, ranks[kind]);
            }
            edges.people(of("boy " + a + " from 0 to 0;"), 8, 5 + a);
        }
    }

    private static void byRankThenByNumbers() {
        sentence("by RANK, of like ones by numbers");
        OneStair x = of("limper 0 from 0 to 9;porter 0 from 0 to 9;clerk 0 from 0 to 9;runner 9 from 0 to 9;"
            + "chief 9 from 0 to 9;room 1;");
        x.minutes(1);
        edges.people(x, 2, 0, 0, 0, 0, 1);
        x.minutes(1);
        edges.people(x, 2, 0, 0, 0, 1, 2);
        x.minutes(1);
        edges.people(x, 2, 0, 0, 1, 2, 3);
        edges.people(x, 5, 0, 0, 0, 0, 0);
        x.minutes(1);
        edges.people(x, 5, 0, 1, 0, 0, 0);
        x.minutes(2);
        edges.people(x, 2, 0, 1, 4, 5, 6);
        edges.people(x, 5, 1, 1, 0, 0, 0);
        OneStair like = of("clerk 9 from 0 to 1;clerk 0 from 0 to 1;clerk 5 from 0 to 1;room 1;");
        for (int p = 0; p < 3; p++) {
            due("when(" + p + ") of like ones", like.when(p), p);
        }
    }

    private static void twoFlights() {
        sentence("runner: 2 if A is below the MINUTE, else 1. chief: as a runner.");
        String[] kinds = {"runner", "chief"};
        for (String kind : kinds) {
            for (int a = 0; a <= 9; a++) {
                for (int minute = 0; minute <= 11; minute++) {
                    OneStair x = of(kind + " " + a + " from 9 to 0;");
                    x.clock(minute);
                    x.minutes(1);
                    edges.people(x, 2, a < minute ? 7 : 8);
                }
            }
        }
        OneStair one = of("runner 0 from 0 to 1;runner 0 from 9 to 7;");
        one.clock(1);
        one.minutes(1);
        edges.people(one, 2, 1, 7);
        edges.people(one, 6, 1, 1);
    }

    private static void boysRest() {
        sentence("boy: 1, but none if MINUTE and A leave 0 by 4.");
        for (int a = 0; a <= 9; a++) {
            for (int minute = 112; minute <= 119; minute++) {
                OneStair x = of("boy " + a + " from 0 to 9;");
                x.clock(minute);
                x.minutes(1);
                edges.people(x, 2, (minute + a) % 4 == 0 ? 0 : 1);
            }
        }
        edges.people(behind(1, "boy 0 from 3 to 3;boy 4 from 3 to 2;"), 6, 0, -9);
    }

    private static void halves() {
        sentence("By a half HALF becomes 1, or, if it is 1 by then, 0, and FLOOR is the next one.");
        OneStair x = of("limper 0 from 0 to 2;porter 0 from 9 to 7;");
        int[][] floors = {{0, 9}, {1, 8}, {1, 8}, {2, 7}};
        for (int minute = 0; minute < 4; minute++) {
            x.minutes(1);
            edges.people(x, 5, 1 - minute % 2, 1 - minute % 2);
            edges.people(x, 2, floors[minute]);
        }
        edges.people(x, 6, 3, 3);
    }

    private static void onGoalAtOnce() {
        sentence("who is on GOAL (with HALF 0) ARRIVES in that MINUTE, at once.");
        OneStair x = of("clerk 0 from 0 to 0;boy 0 from 9 to 9;porter 9 from 4 to 4;limper 0 from 5 to 5 at 1;room 1;");
        x.minutes(1);
        edges.people(x, 6, 0, 0, 0, -9);
        x.minutes(1);
        edges.people(x, 6, 0, 0, 0, 1);
        sentence("Who is on GOAL behind that ARRIVES in that MINUTE.");
        edges.people(behind(1, "clerk 0 from 0 to 1;limper 0 from 0 to 1;clerk 0 from 1 to 3;"), 6, 0, -9, -9);
        edges.people(behind(2, "clerk 0 from 0 to 1;limper 0 from 0 to 1;clerk 0 from 1 to 3;"), 6, 0, 1, 1);
    }

    private static void roomAtMost() {
        sentence("what those ahead took there in this MINUTE, with what one TAKES, is ROOM at most: one TAKES it.");
        String porters = "porter 5 from 0 to 1;".repeat(2) + "limper 0 from 0 to 1;".repeat(2);
        int[][] halves = {{0, 0, 1, 0}, {1, 0, 0, 0}, {1, 0, 1, 0}, {1, 1, 0, 0}, {1, 1, 1, 0}, {1, 1, 1, 1}};
        for (int room = 1; room <= 6; room++) {
            edges.people(behind(1, porters + "room " + room + ";"), 5, halves[room - 1]);
        }
        OneStair passing = behind(2, "runner 0 from 0 to 3 at 1;clerk 0 from 1 to 2 at 1;room 1;");
        edges.people(passing, 2, 2, 1);
        OneStair another = behind(2, "clerk 0 from 1 to 2;clerk 0 from 0 to 2;room 1;");
        edges.people(another, 6, 0, 1);
    }

    private static void stays() {
        sentence("(Who can't go on stays; one who has HALF 1 needs ROOM as well.)");
        OneStair x = of("limper 0 from 0 to 1;clerk 0 from 0 to 1 at 1;room 1;");
        x.minutes(2);
        edges.people(x, 5, 1, 0);
        edges.people(x, 2, 0, 1);
        x.minutes(1);
        edges.people(x, 6, 2, 1);
        OneStair closed = of("limper 0 from 0 to 1;hat 0 at 1 for 2;");
        closed.minutes(3);
        edges.people(closed, 5, 1);
        due("when(0) behind the hat", closed.when(0), 3);
        OneStair second = of("runner 0 from 0 to 3 at 1;hat 1 at 0 for 2;");
        second.minutes(2);
        edges.people(second, 2, 1);
    }

    private static void likeGoals() {
        sentence("Who gets another GOAL by sends(), in a DRILL, by EARLY, BEST SWAP, RENT (like ones, too), "
            + "has HALF 0 then, and has not ARRIVED.");
        OneStair x = behind(1, "limper 0 from 1 to 0;clerk 0 from 0 to 0;");
        edges.people(x, 5, 1, 0);
        edges.people(x, 6, -9, 0);
        due("when(0) as it is", x.when(0), 1);
        due("drill()", x.drill(), 2);
        due("early(0, 2)", x.early(0, 2), 1);
        due("early(1, 9) of one who has ARRIVED", x.early(1, 9), 9);
        due("rent(0)", x.rent(0), 2 + 1);
        due("sends(0, 0, 1), a like GOAL", x.sends(0, 0, 1), 0);
        edges.people(x, 5, 0, 0);
        due("sends(1, 0, 1), a like GOAL", x.sends(1, 0, 1), 0);
        edges.people(x, 6, -9, -9);
        OneStair y = behind(1, "limper 0 from 0 to 2;clerk 0 from 5 to 2;clerk 0 from 5 to 2;");
        due("swap() of like GOALS", y.swap(), 12);
    }

    // ---- trials

    private static void trials() {
        sentence("A TRIAL goes on from all as it is till MINUTE 120; nothing changes.");
        OneStair x = of("clerk 0 from 0 to 9 at 99;");
        int[] minutes = {110, 111, 112};
        int[] when = {118, 119, NONE};
        for (int i = 0; i < 3; i++) {
            x.clock(minutes[i]);
            due("when(0) from " + minutes[i] + " on", x.when(0), when[i]);
            due("last() from " + minutes[i] + " on", x.last(), when[i]);
        }
        edges.changesNothing(Edges.SOME, "when(1)", 7, y -> y.when(1));
        edges.changesNothing(Edges.SOME, "last()", 8, y -> y.last());
        edges.changesNothing(Edges.SOME, "waited(1)", 0, y -> y.waited(1));
        edges.changesNothing(Edges.SOME, "crowd(8)", 1, y -> y.crowd(8));
        edges.changesNothing(Edges.SOME, "there(6, 3)", 0, y -> y.there(6, 3));
        edges.changesNothing(Edges.SOME, "drill()", 12, y -> y.drill());
        edges.changesNothing(Edges.SOME, "early(1, 99)", 94, y -> y.early(1, 99));
        edges.changesNothing(Edges.SOME, "swap()", 23, y -> y.swap());
        edges.changesNothing(Edges.SOME, "enough(99)", 1, y -> y.enough(99));
        edges.changesNothing(Edges.SOME, "worst(30)", 6, y -> y.worst(30));
        edges.changesNothing(Edges.SOME, "rent(0)", 27, y -> y.rent(0));
        edges.changesNothing(Edges.SOME, "cheapest()", 5, y -> y.cheapest());
        edges.changesNothing(Edges.SOME, "judge()", 3, y -> y.judge());
    }

    /** What one trial left behind is nothing to the next one. */
    private static void trialsFromNow() {
        sentence("A TRIAL goes on from all as it is");
        OneStair x = of("clerk 0 from 0 to 9;");
        int[] first = {8, 8, 0, 1, 1, 1, 42, 1, 0, 8, 0};
        int[] stands = {3, 3, 0, 0, 0, 5, 47, 1, 5, 3, 4};
        int[] closed = {30, 30, 27, 0, 0, 5, 47, NONE, 0, 30, 4};
        asked(x, first);
        x.stand(0, 5);
        asked(x, stands);
        x.hat(8, 0, 30);
        asked(x, closed);
        x.sweep(0);
        asked(x, stands);
        x.stand(0, 0);
        asked(x, first);
    }

    private static void asked(OneStair x, int... want) {
        int[] got = {x.when(0), x.last(), x.waited(0), x.crowd(0), x.there(1, 0), x.drill(), x.early(0, 50),
            x.enough(8), x.worst(1), x.rent(9), x.cheapest()};
        String[] calls = {"when(0)", "last()", "waited(0)", "crowd(0)", "there(1, 0)", "drill()", "early(0, 50)",
            "enough(8)", "worst(1)", "rent(9)", "cheapest()"};
        for (int i = 0; i < calls.length; i++) {
            due(calls[i], got[i], want[i]);
        }
    }

    private static void never() {
        sentence("lets LAST be latest (never counts 999); of several the least.");
        OneStair x = of("clerk 0 from 0 to 2;clerk 0 from 9 to 8 at 99;");
        x.clock(90);
        due("worst(28): one is late, by hat 0", x.worst(28), 0);
        due("worst(30): never on 0 and on 1 and on 8", x.worst(30), 0);
        OneStair y = of("clerk 0 from 9 to 8 at 99;clerk 0 from 0 to 2;");
        y.clock(99);
        due("worst(19): late on 0", y.worst(19), 0);
        due("worst(20): never on 0 and on 1", y.worst(20), 0);
        OneStair z = of("clerk 0 from 2 to 0;");
        z.clock(99);
        due("worst(19): later on 1 than on 0", z.worst(19), 1);
        due("worst(20): late on 0, never on 1", z.worst(20), 1);
        due("worst(21): never on both", z.worst(21), 0);
        sentence("(who never ARRIVES counts 200)");
        OneStair stuck = of("porter 5 from 0 to 1;clerk 0 from 1 to 1;room 1;");
        due("rent(1)", stuck.rent(1), 200 + 0);
        due("rent(0)", stuck.rent(0), 0 + 0);
        due("rent(2)", stuck.rent(2), 200 + 0);
    }

    private static void lots() {
        sentence("LOT: z (an int; 1 at first) becomes z * 1103515245 + 12345: START of a PERSON becomes (z >>> 16) "
            + "modulo 100.");
        int[] seeds = {1, 0, -1, LOW, HIGH, 65536, 12345678, -987654321};
        for (int seed : seeds) {
            OneStair x = of("clerk 0 from 0 to 0;clerk 0 from 0 to 0 at 50;");
            x.seed(seed);
            long z = seed * 1103515245L + 12345L & 0xffffffffL;
            int want = (int) (z / 65536 % 100);
            due("lot(0), z " + seed, x.lot(0), want);
            edges.people(x, 4, want, 50);
            due("z behind " + seed, x.seed(0), (int) z);
        }
    }

    // ---- rows, acts, the host

    private static void rowsAsFarAsThereAre() {
        sentence("ROWS by n (1 to 20): (MINUTE, who has ARRIVED behind it as a set, the sum of FLOORS of all) of each "
            + "of the next n MINUTES of a TRIAL (as far as there are such).");
        edges.range(Edges.SOME, "prove", 1, 20, BAD, (x, v) -> x.prove(v));
        OneStair x = of("clerk 0 from 0 to 1;");
        int[][] want = {{99, 20}, {100, 20}, {101, 19}, {118, 2}, {119, 1}, {120, 0}};
        for (int[] w : want) {
            x.clock(w[0]);
            due("prove(20) at " + w[0], x.prove(20), w[1]);
            due("many(3) at " + w[0], x.many(3), w[1]);
            due("the last row", x.row(w[1] - 1, 0), w[1] == 0 ? -9 : w[0] + w[1] - 1);
            due("none behind it", x.row(w[1], 0), -9);
        }
        sentence("Sets are told by bits.");
        OneStair all = of("clerk 0 from 9 to 9;".repeat(8));
        all.prove(1);
        due("row(0, 1), all eight", all.row(0, 1), 255);
        due("row(0, 2), all eight", all.row(0, 2), 72);
        OneStair ends = of("clerk 0 from 9 to 9;" + "clerk 0 from 0 to 9;".repeat(6) + "clerk 0 from 9 to 9;");
        ends.prove(1);
        due("row(0, 1), the first and the last", ends.row(0, 1), 129);
        OneStair nobody = new OneStair();
        nobody.prove(1);
        due("row(0, 1) of nobody", nobody.row(0, 1), 0);
        due("row(0, 2) of nobody", nobody.row(0, 2), 0);
    }

    private static void rowsBehindTheEnd() {
        sentence("right is one that is as it must be; rows behind MINUTE 119 are wrong.");
        OneStair x = of("clerk 0 from 0 to 0;");
        x.clock(100);
        x.prove(20);
        due("judge()", x.judge(), 0);
        x.minutes(20);
        for (int i = 0; i < 20; i++) {
            x.alterRow(i, 0, 120 + i);
        }
        due("judge() of rows from 120 on", x.judge(), 1);
        x.clock(101);
        for (int i = 0; i < 20; i++) {
            x.alterRow(i, 0, 101 + i);
        }
        due("judge(), one row is behind 119", x.judge(), 20);
    }

    private static void actsWrap() {
        sentence("ACTS of things, with a number x (ints that wrap)");
        OneStair x = of("clerk 0 from 0 to 0;clerk 3 from 0 to 0;");
        x.shelf(0, 0, 1);
        due("climbs(HIGH)", x.act(0, 0, HIGH), LOW);
        due("yields(LOW)", x.act(0, 1, LOW), 2);
        due("yields(1073741823)", x.act(0, 1, 1073741823), LOW);
        x.mind(1, Edges.LIMPER, 3);
        due("yields of a limper", x.act(0, 1, 1073741823), HIGH - 2);
        x.mind(1, Edges.RUNNER, 3);
        due("climbs of a runner", x.act(0, 0, 1431655765), 1431655766 * 3);
        x.mind(1, Edges.CHIEF, 3);
        due("climbs of a chief", x.act(0, 0, HIGH), LOW);
        x.mind(1, Edges.PORTER, 3);
        due("climbs of a porter", x.act(0, 0, HIGH), HIGH);
        due("shares of a porter", x.act(0, 2, HIGH), (HIGH + 2) / 2 ^ 1);
        x.mind(1, Edges.BOY, 3);
        due("tells of a boy", x.act(0, 3, 1073741822), (HIGH - 1 ^ 3) * 2);
        due("shares of a boy", x.act(0, 2, HIGH), HIGH / 2 + 4);
        x.mind(1, Edges.CLERK, 0);
        due("shares(LOW) by -1", x.act(0, 2, LOW), LOW);
    }

    private static void partedByZero() {
        sentence("x by (a - n), the rest away (-15 if these are the same; that is all that act() answers then).");
        OneStair x = of("boy 0 from 0 to 0;".repeat(8));
        for (int n = 0; n < 8; n++) {
            x.shelf(0, 0, n);
            for (int a = 0; a <= 9; a++) {
                x.mind(n, Edges.CLERK, a);
                due("shares(100) of " + n + " with " + a, x.act(0, 2, 100), a == n ? -15 : 100 / (a == n ? 1 : a - n));
            }
        }
        OneStair y = of("boy 0 from 0 to 0;".repeat(4));
        y.shelf(0, 0, 3);
        for (int kind = 0; kind < 6; kind++) {
            y.mind(3, kind, 3);
            for (int act = 0; act < 4; act++) {
                boolean shares = act == 2 || act == 3 && (kind == Edges.RUNNER || kind == Edges.CHIEF);
                due("parted, kind " + kind + ", act " + act, y.act(0, act, 40) == -15 ? 1 : 0, shares ? 1 : 0);
            }
        }
        sentence("Quotients are cut towards 0.");
        int[][] quotients = {{7, 4, 2}, {-7, 4, -2}, {7, 0, -7}, {-7, 0, 7}, {2, 4, 0}, {-2, 4, 0}, {0, 9, 0}};
        OneStair z = of("boy 0 from 0 to 0;".repeat(2));
        z.shelf(0, 0, 1);
        for (int[] q : quotients) {
            z.mind(1, Edges.CLERK, q[1]);
            due("shares(" + q[0] + ") with A " + q[1], z.act(0, 2, q[0]), q[2]);
        }
    }

    private static void bodies() {
        sentence("clerk: 10 climbs: x + n. 11 yields: climbs(x) * 2. 12 shares: x by (a - n), the rest away");
        acts(Edges.CLERK, new int[] {10, 20, 7, 16}, new int[][] {{10}, {11, 10}, {12}, {13, 11, 10}});
        sentence("limper: 20 yields: super.yields(x) - a.");
        acts(Edges.LIMPER, new int[] {10, 16, 7, 20}, new int[][] {{10}, {20, 11, 10}, {12}, {13, 20, 11, 10}});
        sentence("runner: 30 climbs: super.climbs(x) * 3. 31 tells: super.tells(x) + shares(n).");
        acts(Edges.RUNNER, new int[] {30, 60, 7, 59}, new int[][] {{30, 10}, {11, 30, 10}, {12},
            {31, 13, 11, 30, 10, 12}});
        sentence("chief: 40 climbs: 0 - super.climbs(x). 41 yields: super.yields(x) + climbs(n).");
        acts(Edges.CHIEF, new int[] {-30, -78, 7, -71}, new int[][] {{40, 30, 10}, {41, 11, 40, 30, 10, 40, 30, 10},
            {12}, {31, 13, 41, 11, 40, 30, 10, 40, 30, 10, 12}});
        sentence("porter: 50 shares: super.shares(x + 2) ^ 1. 51 climbs: super.climbs(x) - n.");
        acts(Edges.PORTER, new int[] {7, 10, 8, 14}, new int[][] {{51, 10}, {20, 11, 51, 10}, {50, 12},
            {13, 20, 11, 51, 10}});
        sentence("boy: 60 tells: super.tells(x) * 2. 61 shares: super.shares(x) + climbs(a).");
        acts(Edges.BOY, new int[] {10, 20, 14, 32}, new int[][] {{10}, {11, 10}, {61, 12, 10}, {60, 13, 11, 10}});
    }

    /** Each act of one with the number 3 and A 4, with 7. */
    private static void acts(int kind, int[] want, int[][] bodies) {
        OneStair x = of("boy 0 from 0 to 0;".repeat(4));
        x.shelf(0, 0, 3);
        x.mind(3, kind, 4);
        for (int act = 0; act < 4; act++) {
            due("act " + act + " of kind " + kind, x.act(0, act, 7), want[act]);
            edges.bodies(x, bodies[act]);
        }
    }

    /** Behind a parting by 0 no body begins. */
    private static void tracesOfParted() {
        sentence("numbers of the bodies that ran in the latest act(), as they began (left first)");
        int[][] shares = {{12}, {12}, {12}, {12}, {50, 12}, {61, 12}};
        int[][] tells = {{}, {}, {31, 13, 11, 30, 10, 12}, {31, 13, 41, 11, 40, 30, 10, 40, 30, 10, 12}};
        for (int kind = 0; kind < 6; kind++) {
            OneStair x = of("boy 0 from 0 to 0;".repeat(4));
            x.shelf(0, 0, 3);
            x.mind(3, kind, 3);
            due("shares of kind " + kind, x.act(0, 2, 7), -15);
            edges.bodies(x, shares[kind]);
            if (kind == Edges.RUNNER || kind == Edges.CHIEF) {
                due("tells of kind " + kind, x.act(0, 3, 7), -15);
                edges.bodies(x, tells[kind]);
            }
            x.mind(3, kind, 4);
            due("climbs behind it", x.act(0, 0, -3) == -15 ? 1 : 0, 0);
        }
    }

    private static void traces() {
        sentence("THE TRACE: numbers of the bodies that ran in the latest act(), as they began (left first); "
            + "the first 30 are kept.");
        OneStair x = of("chief 5 from 0 to 0;limper 0 from 0 to 0;");
        edges.bodies(x);
        x.shelf(0, 0, 0);
        x.act(0, 3, 1);
        // No act runs more bodies than this one: 30 are never left behind.
        edges.bodies(x, 31, 13, 41, 11, 40, 30, 10, 40, 30, 10, 12);
        x.act(0, 2, 1);
        edges.bodies(x, 12);
        x.act(3, 2, 1);
        edges.bodies(x);
        due("trace(29)", x.trace(29), NONE);
        due("trace(30)", x.trace(30), NONE);
    }

    private static void sheetsAndShelves() {
        sentence("SHEETS 0 to 3 are rows of bytes (sort 0), shorts (1), ints (2) or longs (3), 40 at most, or missing "
            + "(at first).");
        edges.range(Edges.SOME, "SHEET of sheet", 0, 3, BAD, (x, v) -> x.sheet(v, 0, 1));
        for (int sheet = 0; sheet < 4; sheet++) {
            for (int sort = 0; sort < 4; sort++) {
                OneStair x = new OneStair();
                due("item, missing at first", x.item(sheet, sort, 0), Edges.MISSING);
                due("sheet of 40", x.sheet(sheet, sort, 40), 1);
                due("put(39)", x.put(sheet, 39, 5), 1);
                due("item(39)", x.item(sheet, sort, 39), 5);
                due("put(40)", x.put(sheet, 40, 5), Edges.OUTSIDE);
                due("sheet of 41", x.sheet(sheet, sort, 41), BAD);
                due("item(39)", x.item(sheet, sort, 39), 5);
            }
        }
        sentence("SHELVES 0 to 3 hold a PERSON (by its number; nothing, if there is no such one any more), a SHEET's "
            + "row, or nothing (at first).");
        edges.range(Edges.SOME, "SHELF of shelf", 0, 3, BAD, (x, v) -> x.shelf(v, 2, 0));
        OneStair x = of("clerk 0 from 0 to 0;");
        x.keep();
        x.person(0, 9, 0, 0);
        for (int shelf = 0; shelf < 4; shelf++) {
            due("taken, nothing at first", x.taken(shelf, 0), Edges.MISSING);
            due("shelf(" + shelf + ", 0, 1)", x.shelf(shelf, 0, 1), 1);
            due("taken(" + shelf + ", 0)", x.taken(shelf, 0), 1);
        }
        x.again();
        for (int shelf = 0; shelf < 4; shelf++) {
            due("no such one any more", x.taken(shelf, 0), Edges.MISSING);
            due("act of nothing", x.act(shelf, 0, 5), 0);
        }
    }

    public static void main(String[] args) {
        refusalsChangeNothing();
        callsOfOneObject();
        floorsAndFlights();
        minuteAtFirstAndInTheEnd();
        roomOneToNine();
        eightPeople();
        kindsAndWhatTheyAreUnder();
        numbersOfAPerson();
        startIsTheMinuteOrLess();
        fourHats();
        takes();
        ranks();
        byRankThenByNumbers();
        twoFlights();
        boysRest();
        halves();
        onGoalAtOnce();
        roomAtMost();
        stays();
        likeGoals();
        trials();
        trialsFromNow();
        never();
        lots();
        rowsAsFarAsThereAre();
        rowsBehindTheEnd();
        actsWrap();
        partedByZero();
        bodies();
        traces();
        tracesOfParted();
        sheetsAndShelves();
        edges.end();
    }
}
