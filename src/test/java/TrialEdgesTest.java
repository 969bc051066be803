/** The boundary sentences of promises 16 to 29: what will be. */
public final class TrialEdgesTest {
    private static final int BAD = Edges.BAD, FULL = Edges.FULL, NONE = Edges.NONE, STATE = Edges.STATE;
    private static final int LOW = Edges.LOW, HIGH = Edges.HIGH;
    /** Closes flight 0 in all minutes up to 118. */
    private static final String TILL_118 = "hat 0 at 0 for 30;hat 0 at 30 for 30;hat 0 at 60 for 30;hat 0 at 89 for 30;";
    /** Closes flight 0 in all minutes. */
    private static final String ALWAYS = "hat 0 at 0 for 30;hat 0 at 30 for 30;hat 0 at 60 for 30;hat 0 at 90 for 30;";
    private static final Edges edges = new Edges();

    private static void due(String call, int got, int want) {
        edges.due(call, got, want);
    }

    private static OneStair of(String text) {
        return Edges.of(text);
    }

    private static OneStair at(int minute, String text) {
        OneStair x = of(text);
        x.clock(minute);
        return x;
    }

    private static void p16() {
        edges.sentence(16, "WHEN. BAD; NONE: never.");
        edges.range(Edges.SOME, "when", 0, 3, BAD, (x, v) -> x.when(v));
        edges.range(Edges.BRIM, "when", 0, 7, BAD, (x, v) -> x.when(v));
        edges.changesNothing(Edges.NEW, "when(0) of nobody", BAD, x -> x.when(0));
        edges.changesNothing(Edges.LATE, "when(0), ARRIVED", 1, x -> x.when(0));
        edges.changesNothing(Edges.LATE, "when(1), never", NONE, x -> x.when(1));
        edges.changesNothing(Edges.LATE, "when(4)", BAD, x -> x.when(4));
        due("when(0), at once", of("clerk 0 from 4 to 4;").when(0), 0);
        due("when(0), a flight", of("clerk 0 from 4 to 5;").when(0), 0);
        due("when(0), in the last minute", of("clerk 0 from 1 to 0;" + TILL_118).when(0), 119);
        due("when(0), never", of("clerk 0 from 1 to 0;" + ALWAYS).when(0), NONE);
        due("when(0), not enough room", of("porter 5 from 1 to 0;room 1;").when(0), NONE);
        due("when(0), just enough room", of("porter 5 from 1 to 0;room 2;").when(0), 1);
        due("when(0), START 99", of("limper 0 from 0 to 9 at 99;").when(0), 116);
        due("when(0), in the last minute", at(102, "limper 0 from 0 to 9;").when(0), 119);
        due("when(0), one minute late", at(103, "limper 0 from 0 to 9;").when(0), NONE);
    }

    private static void p17() {
        edges.sentence(17, "LAST. NONE: somebody never ARRIVES, or there is nobody.");
        edges.changesNothing(Edges.NEW, "last() of nobody", NONE, x -> x.last());
        edges.changesNothing(Edges.LATE, "last()", NONE, x -> x.last());
        due("last(), at once", of("clerk 0 from 4 to 4;").last(), 0);
        due("last(), the latest is first", of("clerk 0 from 0 to 4;clerk 0 from 0 to 1;").last(), 3);
        due("last(), the latest is last", of("clerk 0 from 0 to 1;clerk 0 from 0 to 4;").last(), 3);
        due("last(), in the last minute", of("clerk 0 from 1 to 0;clerk 0 from 5 to 5;" + TILL_118).last(), 119);
        due("last(), the first one never", of("clerk 0 from 1 to 0;clerk 0 from 5 to 5;" + ALWAYS).last(), NONE);
        due("last(), the last one never", of("clerk 0 from 5 to 5;clerk 0 from 1 to 0;" + ALWAYS).last(), NONE);
        OneStair x = of("clerk 0 from 0 to 4;");
        x.minutes(4);
        x.clock(120);
        due("last(), all have ARRIVED", x.last(), 3);
    }

    private static void p18() {
        edges.sentence(18, "WAITED. BAD.");
        edges.range(Edges.SOME, "waited", 0, 3, BAD, (x, v) -> x.waited(v));
        edges.range(Edges.BRIM, "waited", 0, 7, BAD, (x, v) -> x.waited(v));
        edges.changesNothing(Edges.NEW, "waited(0) of nobody", BAD, x -> x.waited(0));
        edges.changesNothing(Edges.LATE, "waited(1), no minute is left", 0, x -> x.waited(1));
        edges.changesNothing(Edges.SOME, "waited(3), a boy", 2, x -> x.waited(3));
        edges.sentence(Edges.TERMS, "WAITED of a PERSON: MINUTES of a TRIAL, from START on, at whose begin one has "
            + "not ARRIVED and is not on GOAL, in which one goes nowhere, not by a half.");
        due("waited(0), all minutes", of("clerk 0 from 0 to 1;" + ALWAYS).waited(0), 120);
        due("waited(0), all but the last", of("clerk 0 from 0 to 1;" + TILL_118).waited(0), 119);
        due("waited(0), from START on", of("clerk 0 from 0 to 1 at 99;" + ALWAYS).waited(0), 21);
        due("waited(0), from MINUTE on", at(110, "clerk 0 from 0 to 1 at 99;" + ALWAYS).waited(0), 10);
        due("waited(0), one minute is left", at(119, "clerk 0 from 0 to 1;" + ALWAYS).waited(0), 1);
        due("waited(0), on GOAL", of("clerk 0 from 1 to 1 at 50;").waited(0), 0);
        due("waited(0), by halves", of("limper 0 from 0 to 9;").waited(0), 0);
        due("waited(0), one flight of two", of("runner 0 from 0 to 3 at 1;hat 1 at 1 for 1;").waited(0), 0);
        due("waited(0), between halves", of("limper 0 from 0 to 1;hat 0 at 1 for 3;").waited(0), 3);
        OneStair arrived = of("clerk 0 from 1 to 1;" + ALWAYS);
        arrived.minutes(1);
        arrived.stand(0, 0);
        due("waited(0) of one who has ARRIVED", arrived.waited(0), 0);
        due("waited(1), of like ones", of("clerk 0 from 0 to 1;clerk 0 from 0 to 1;room 1;").waited(1), 1);
        due("waited(0), of like ones", of("clerk 0 from 0 to 1;clerk 0 from 0 to 1;room 1;").waited(0), 0);
    }

    private static void p19() {
        edges.sentence(19, "CROWD. BAD.");
        edges.range(Edges.SOME, "crowd", 0, 8, BAD, (x, v) -> x.crowd(v));
        edges.range(Edges.NEW, "crowd of nobody", 0, 8, BAD, (x, v) -> x.crowd(v));
        edges.changesNothing(Edges.NEW, "crowd(0) of nobody", 0, x -> x.crowd(0));
        edges.changesNothing(Edges.LATE, "crowd(8), no minute is left", 0, x -> x.crowd(8));
        edges.sentence(Edges.TERMS, "CROWD of a FLIGHT: the most that was taken of one of its LANES in a MINUTE of a "
            + "TRIAL.");
        String nine = "porter 5 from 8 to 9;".repeat(4) + "clerk 0 from 8 to 9;";
        for (int room = 1; room <= 9; room++) {
            due("crowd(8) with ROOM " + room, of(nine + "room " + room + ";").crowd(8), room);
        }
        due("crowd(0), both lanes", of("clerk 0 from 0 to 1;".repeat(2) + "clerk 0 from 1 to 0;").crowd(0), 2);
        due("crowd(0), the lane down", of("clerk 0 from 0 to 1;" + "clerk 0 from 1 to 0;".repeat(2)).crowd(0), 2);
        due("crowd(0), one after another", of("clerk 0 from 0 to 1;clerk 0 from 0 to 1 at 1;").crowd(0), 1);
        due("crowd(0), in the last minute", of("clerk 0 from 0 to 1;clerk 0 from 0 to 1;" + TILL_118).crowd(0), 2);
        due("crowd(0), closed always", of("clerk 0 from 0 to 1;" + ALWAYS).crowd(0), 0);
        due("crowd(0) of boys", of("boy 1 from 0 to 1;".repeat(8)).crowd(0), 0);
        OneStair gone = of("clerk 0 from 0 to 2;clerk 0 from 0 to 2;");
        gone.minutes(1);
        due("crowd(0), the minute is gone", gone.crowd(0), 0);
        due("crowd(1)", gone.crowd(1), 2);
    }

    private static void p20() {
        edges.sentence(20, "How many are on a FLOOR behind a MINUTE (MINUTE to 119) of a TRIAL. BAD.");
        edges.range(Edges.SOME, "FLOOR of there", 0, 9, BAD, (x, v) -> x.there(v, 3));
        edges.range(Edges.SOME, "MINUTE of there", 3, 119, BAD, (x, v) -> x.there(0, v));
        edges.range(Edges.NEW, "MINUTE of there", 0, 119, BAD, (x, v) -> x.there(0, v));
        int[] late = {0, 119, 120, 121};
        for (int minute : late) {
            edges.changesNothing(Edges.LATE, "there(0, " + minute + ")", BAD, x -> x.there(0, minute));
        }
        Edges.Scene last = Edges.SOME.and("at 119", x -> x.clock(119));
        edges.range(last, "MINUTE of there", 119, 119, BAD, (x, v) -> x.there(0, v));
        OneStair x = of("clerk 0 from 0 to 9;limper 0 from 9 to 0;clerk 0 from 5 to 5;");
        int[][] want = {{0, 1, 1}, {0, 9, 1}, {0, 0, 0}, {1, 8, 1}, {1, 9, 0}, {4, 5, 2}, {8, 9, 1}, {17, 0, 1},
            {119, 0, 1}, {119, 9, 1}, {119, 5, 1}, {119, 4, 0}};
        for (int[] w : want) {
            due("there(" + w[1] + ", " + w[0] + ")", x.there(w[1], w[0]), w[2]);
        }
        due("there(9, 0) of eight", of("clerk 0 from 8 to 9;".repeat(8) + "room 9;").there(9, 0), 8);
        due("there(0, 118)", of("clerk 0 from 1 to 0;" + TILL_118).there(0, 118), 0);
        due("there(0, 119)", of("clerk 0 from 1 to 0;" + TILL_118).there(0, 119), 1);
        due("there(3, 119) of nobody", new OneStair().there(3, 119), 0);
    }

    private static void p21() {
        edges.sentence(21, "DRILL. NONE: not all by MINUTE 120, or there is nobody.");
        edges.changesNothing(Edges.NEW, "drill() of nobody", NONE, x -> x.drill());
        edges.changesNothing(Edges.LATE, "drill()", NONE, x -> x.drill());
        due("drill(), all minutes", of("clerk 0 from 1 to 9;" + TILL_118).drill(), 120);
        due("drill(), one minute late", of("clerk 0 from 1 to 9;" + ALWAYS).drill(), NONE);
        due("drill(), in the last minute", at(119, "clerk 0 from 1 to 9;").drill(), 1);
        due("drill(), one minute late", at(119, "clerk 0 from 2 to 9;").drill(), NONE);
        due("drill(), in the last two", at(118, "clerk 0 from 2 to 9;").drill(), 2);
        due("drill() at 120, on FLOOR 0", at(120, "clerk 0 from 0 to 0;").drill(), NONE);
        due("drill(), one of two is late", at(119, "clerk 0 from 2 to 9;clerk 0 from 1 to 9;").drill(), NONE);
        edges.sentence(Edges.TERMS, "DRILL: all set out now (START is MINUTE, nobody has ARRIVED) for FLOOR 0: how "
            + "many MINUTES go till the last one has ARRIVED there (1 at least).");
        due("drill(), on FLOOR 0", of("clerk 0 from 0 to 9 at 99;").drill(), 1);
        due("drill(), on FLOOR 1", of("clerk 0 from 1 to 9 at 99;").drill(), 1);
        due("drill(), on FLOOR 9", of("clerk 0 from 9 to 9 at 99;").drill(), 9);
        due("drill() at 119, on FLOOR 0", at(119, "clerk 0 from 0 to 9;").drill(), 1);
        due("drill() above START 99", at(105, "clerk 0 from 3 to 9;").drill(), 3);
        OneStair x = of("clerk 0 from 3 to 3;");
        x.minutes(1);
        due("drill() of one who has ARRIVED", x.drill(), 3);
    }

    private static void p22() {
        edges.sentence(22, "EARLY (by 0 to 119). BAD; NONE.");
        edges.range(Edges.SOME, "PERSON of early", 0, 3, BAD, (x, v) -> x.early(v, 99));
        edges.range(Edges.BRIM, "PERSON of early", 0, 7, BAD, (x, v) -> x.early(v, 99));
        edges.range(Edges.SOME, "MINUTE of early", 0, 119, BAD, (x, v) -> x.early(1, v));
        edges.range(Edges.LATE, "MINUTE of early", 0, 119, BAD, (x, v) -> x.early(1, v));
        edges.changesNothing(Edges.NEW, "early(0, 0) of nobody", BAD, x -> x.early(0, 0));
        edges.changesNothing(Edges.SOME, "early(1, 7)", NONE, x -> x.early(1, 7));
        edges.changesNothing(Edges.SOME, "early(1, 8)", 3, x -> x.early(1, 8));
        edges.changesNothing(Edges.SOME, "early(0, 2), ahead of MINUTE", NONE, x -> x.early(0, 2));
        edges.changesNothing(Edges.SOME, "early(0, 3), ARRIVED", 3, x -> x.early(0, 3));
        edges.changesNothing(Edges.LATE, "early(0, 119)", NONE, x -> x.early(0, 119));
        edges.changesNothing(Edges.LATE, "early(4, 119), BAD ahead of NONE", BAD, x -> x.early(4, 119));
        edges.sentence(Edges.TERMS, "EARLY: the START (MINUTE to 99) with which one ARRIVES by a told MINUTE, latest.");
        String goal = "clerk 0 from 5 to 5;";
        due("early(0, 0)", of(goal).early(0, 0), 0);
        due("early(0, 98)", of(goal).early(0, 98), 98);
        due("early(0, 99)", of(goal).early(0, 99), 99);
        due("early(0, 100)", of(goal).early(0, 100), 99);
        due("early(0, 119)", of(goal).early(0, 119), 99);
        due("early(0, 119) at 99", at(99, goal).early(0, 119), 99);
        due("early(0, 98) at 99", at(99, goal).early(0, 98), NONE);
        due("early(0, 119) at 100", at(100, goal).early(0, 119), NONE);
        due("early(0, 119), of the last minute", of("clerk 0 from 1 to 0;" + TILL_118).early(0, 119), 99);
        due("early(0, 118)", of("clerk 0 from 1 to 0;" + TILL_118).early(0, 118), NONE);
        for (int by = 3; by <= 119; by++) {
            due("early(0, " + by + "), four flights", of("clerk 0 from 0 to 4;").early(0, by), Math.min(by - 3, 99));
        }
        due("early(0, 2), four flights", of("clerk 0 from 0 to 4;").early(0, 2), NONE);
        due("early(0, 5) behind a hat", of("clerk 0 from 0 to 1;hat 0 at 2 for 4;").early(0, 5), 1);
        due("early(0, 6) behind a hat", of("clerk 0 from 0 to 1;hat 0 at 2 for 4;").early(0, 6), 6);
    }

    private static void p23() {
        edges.sentence(23, "BEST SWAP. NONE: there are no two such, or with none all ARRIVE.");
        edges.changesNothing(Edges.NEW, "swap() of nobody", NONE, x -> x.swap());
        edges.changesNothing(Edges.LATE, "swap()", NONE, x -> x.swap());
        due("swap() of one", of("clerk 0 from 0 to 9;").swap(), NONE);
        due("swap() of two", of("clerk 0 from 0 to 9;clerk 0 from 9 to 0;").swap(), 1);
        OneStair one = of("clerk 0 from 0 to 9;clerk 0 from 5 to 5;");
        one.minutes(1);
        due("swap(), one of two has ARRIVED", one.swap(), NONE);
        due("swap(), never by any", of("clerk 0 from 0 to 1;clerk 0 from 0 to 1;" + ALWAYS).swap(), NONE);
        due("swap(), in the last minute", of("clerk 0 from 0 to 1;clerk 0 from 0 to 1;" + TILL_118).swap(), 1);
        due("swap(), one never, by any", of("porter 5 from 0 to 1;clerk 0 from 4 to 9;clerk 0 from 5 to 9;room 1;")
            .swap(), NONE);
        due("swap(), all by one alone", of("clerk 0 from 3 to 3;porter 5 from 0 to 1;clerk 0 from 5 to 0;room 1;")
            .swap(), 12);
        edges.sentence(Edges.TERMS, "BEST SWAP: two who have not ARRIVED, whose GOALS change: with which LAST is "
            + "least; of several the least (10 times the lesser number and the other).");
        String six = "clerk 0 from 5 to 5;".repeat(6);
        due("swap(), the last two of eight", of(six + "clerk 0 from 0 to 9;clerk 0 from 9 to 0;").swap(), 67);
        due("swap(), of several", of("clerk 0 from 5 to 5;".repeat(8)).swap(), 1);
        due("swap(), the first and the last", of("clerk 0 from 0 to 9;" + six + "clerk 0 from 9 to 0;").swap(), 7);
        OneStair behind = of("clerk 0 from 5 to 5;" + "clerk 0 from 4 to 4 at 1;".repeat(7));
        behind.minutes(1);
        due("swap(), who has ARRIVED is left out", behind.swap(), 12);
        OneStair late = at(50, "clerk 0 from 7 to 7;" + "clerk 0 from 0 to 2 at 60;".repeat(3));
        late.minutes(1);
        late.clock(0);
        for (int p = 1; p <= 3; p++) {
            late.sends(p, 2 + p, 0);
        }
        due("last(), by one who has ARRIVED", late.last(), 50);
        due("swap(), LAST is the same by all", late.swap(), 12);
    }

    private static void p24() {
        edges.sentence(24, "ENOUGH (by 0 to 119). BAD; NONE.");
        edges.range(Edges.SOME, "enough", 0, 119, BAD, (x, v) -> x.enough(v));
        edges.range(Edges.LATE, "enough", 0, 119, BAD, (x, v) -> x.enough(v));
        edges.changesNothing(Edges.NEW, "enough(0) of nobody", 1, x -> x.enough(0));
        edges.changesNothing(Edges.LATE, "enough(119)", NONE, x -> x.enough(119));
        edges.changesNothing(Edges.SOME, "enough(7)", NONE, x -> x.enough(7));
        edges.changesNothing(Edges.SOME, "enough(8)", 1, x -> x.enough(8));
        due("enough(118), one minute late", of("clerk 0 from 0 to 1;" + TILL_118).enough(118), NONE);
        due("enough(119), in the last minute", of("clerk 0 from 0 to 1;" + TILL_118).enough(119), 1);
        edges.sentence(Edges.TERMS, "ENOUGH: the least ROOM (1 to 9) by which all ARRIVE by a told MINUTE.");
        for (int n = 1; n <= 8; n++) {
            OneStair x = of("clerk 0 from 0 to 1;".repeat(n) + "room 9;");
            due("enough(0) of " + n, x.enough(0), n);
            due("enough(119) of " + n, x.enough(119), 1);
            due("room(1), it stays", x.room(1), 9);
        }
        String four = "porter 5 from 0 to 1;".repeat(4);
        due("enough(1), eight", of(four).enough(1), 8);
        due("enough(1), nine", of(four + "limper 0 from 0 to 1;").enough(1), 9);
        due("enough(1), ten", of(four + "porter 5 from 0 to 1;").enough(1), NONE);
        due("enough(119), two", of(four).enough(119), 2);
        OneStair arrived = at(9, "clerk 0 from 3 to 3;");
        arrived.minutes(1);
        due("enough(9), ARRIVED in 9", arrived.enough(9), 1);
        due("enough(8), ARRIVED in 9", arrived.enough(8), NONE);
    }

    private static void p25() {
        edges.sentence(25, "WORST HAT (n 1 to 30). BAD; FULL: there are 4 HATS; STATE: MINUTE is above 99.");
        Edges.Scene at99 = Edges.SOME.and("at 99", x -> x.clock(99));
        Edges.Scene at100 = Edges.SOME.and("at 100", x -> x.clock(100));
        Edges.Scene full100 = Edges.BRIM.and("at 100", x -> x.clock(100));
        edges.range(Edges.SOME, "worst", 1, 30, BAD, (x, v) -> x.worst(v));
        edges.range(Edges.NEW, "worst", 1, 30, BAD, (x, v) -> x.worst(v));
        edges.range(at99, "worst", 1, 30, BAD, (x, v) -> x.worst(v));
        due("worst(1) at 99 is taken", at99.made().worst(1) >= 0 ? 1 : 0, 1);
        edges.changesNothing(Edges.NEW, "worst(30) of nobody", 0, x -> x.worst(30));
        edges.changesNothing(at100, "worst(1)", STATE, x -> x.worst(1));
        edges.changesNothing(Edges.LATE, "worst(30)", STATE, x -> x.worst(30));
        edges.changesNothing(Edges.BRIM, "worst(1)", FULL, x -> x.worst(1));
        edges.changesNothing(full100, "worst(30), FULL ahead of STATE", FULL, x -> x.worst(30));
        int[] bad = {0, 31, -1, LOW, HIGH};
        for (int n : bad) {
            edges.changesNothing(Edges.BRIM, "worst(" + n + "), BAD ahead of FULL", BAD, x -> x.worst(n));
            edges.changesNothing(full100, "worst(" + n + "), BAD ahead of all", BAD, x -> x.worst(n));
            edges.changesNothing(at100, "worst(" + n + "), BAD ahead of STATE", BAD, x -> x.worst(n));
        }
        edges.changesNothing(Edges.BRIM.and("swept", x -> x.sweep(0)), "worst(1) of three", 0, x -> x.worst(1));
        for (int f = 0; f <= 8; f++) {
            due("worst(1) of one flight", of("clerk 0 from " + f + " to " + (f + 1) + ";").worst(1), f);
        }
        due("worst(1), behind it", of("clerk 0 from 4 to 5 at 1;").worst(1), 0);
        due("worst(2), in its last minute", of("clerk 0 from 4 to 5 at 1;").worst(2), 4);
    }

    private static void p26() {
        edges.sentence(26, "RENT. BAD.");
        edges.range(Edges.SOME, "rent", 0, 9, BAD, (x, v) -> x.rent(v));
        edges.range(Edges.NEW, "rent", 0, 9, BAD, (x, v) -> x.rent(v));
        edges.range(Edges.LATE, "rent", 0, 9, BAD, (x, v) -> x.rent(v));
        edges.changesNothing(Edges.NEW, "rent(9) of nobody", 0, x -> x.rent(9));
        edges.changesNothing(Edges.LATE, "rent(9), none of four", 800, x -> x.rent(9));
        edges.sentence(Edges.TERMS, "RENT of a FLOOR: the sum of WHEN less START of all, if all had that GOAL");
        due("rent(0), at once", of("clerk 0 from 0 to 9 at 40;").rent(0), 0);
        due("rent(9)", of("clerk 0 from 0 to 0 at 40;").rent(9), 8);
        due("rent(0) of two", of("clerk 0 from 2 to 9;clerk 0 from 1 to 5 at 99;").rent(0), 1 + 0);
        due("rent(0), START is gone", at(50, "clerk 0 from 2 to 9 at 20;").rent(0), 31);
        due("rent(0), in the last minute", of("clerk 0 from 1 to 9;" + TILL_118).rent(0), 119);
        due("rent(0), never", of("clerk 0 from 1 to 9;" + ALWAYS).rent(0), 200);
        due("rent(0), never, START 99", of("clerk 0 from 1 to 9 at 99;" + ALWAYS).rent(0), 200);
        OneStair arrived = of("clerk 0 from 3 to 3;");
        arrived.minutes(5);
        due("rent(3) of one who has ARRIVED", arrived.rent(3), 5);
    }

    private static void p27() {
        edges.sentence(27, "The FLOOR with the least RENT; of several the least.");
        edges.changesNothing(Edges.NEW, "cheapest() of nobody", 0, x -> x.cheapest());
        edges.changesNothing(Edges.LATE, "cheapest(), all alike", 0, x -> x.cheapest());
        for (int floor = 0; floor <= 9; floor++) {
            OneStair limper = of("limper 0 from " + floor + " to 0;");
            due("cheapest() of a limper on " + floor, limper.cheapest(), floor);
            OneStair clerk = of("clerk 0 from " + floor + " to 0;");
            due("cheapest() of a clerk on " + floor, clerk.cheapest(), Math.max(0, floor - 1));
        }
    }

    private static void p28() {
        edges.sentence(28, "z becomes v: what it was.");
        int[] all = {0, -1, LOW, HIGH, 1};
        int was = 1;
        OneStair x = new OneStair();
        for (int v : all) {
            due("seed(" + v + ")", x.seed(v), was);
            was = v;
            edges.changesOnly(Edges.SOME, "seed(" + v + ")", -5, y -> y.seed(v), "z");
        }
    }

    private static void p29() {
        edges.sentence(29, "LOT: the START. BAD.");
        edges.range(Edges.SOME, "lot", 0, 3, BAD, (x, v) -> x.lot(v));
        edges.range(Edges.BRIM, "lot", 0, 7, BAD, (x, v) -> x.lot(v));
        edges.changesNothing(Edges.NEW, "lot(0) of nobody", BAD, x -> x.lot(0));
        int z = -5 * 1103515245 + 12345;
        edges.changesOnly(Edges.SOME, "lot(1)", (z >>> 16) % 100, x -> x.lot(1), "people", "z");
        OneStair x = Edges.SOME.made();
        x.lot(0);
        edges.people(x, 6, 1, -9, -9, -9);
        edges.people(x, 5, 0, 1, 0, 0);
        edges.people(x, 4, (z >>> 16) % 100, 0, 4, 3);
        OneStair y = of("clerk 0 from 0 to 0;");
        int most = 0;
        int least = 99;
        for (int i = 0; i < 500; i++) {
            int start = y.lot(0);
            most = Math.max(most, start);
            least = Math.min(least, start);
        }
        due("the least START of 500", least, 0);
        due("the most START of 500", most, 99);
    }

    public static void main(String[] args) {
        p16();
        p17();
        p18();
        p19();
        p20();
        p21();
        p22();
        p23();
        p24();
        p25();
        p26();
        p27();
        p28();
        p29();
        edges.allOf(16, 29);
        edges.end();
    }
}
