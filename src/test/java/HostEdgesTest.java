/** The boundary sentences of promises 30 to 44: rows, the host, what is kept. */
public final class HostEdgesTest {
    private static final int BAD = Edges.BAD, NONE = Edges.NONE, LOW = Edges.LOW, HIGH = Edges.HIGH;
    private static final int MISSING = Edges.MISSING, OUTSIDE = Edges.OUTSIDE, OTHER_SORT = Edges.OTHER_SORT;
    private static final int NO_ROW = -9;
    private static final int[] FAR = {LOW, LOW + 1, -1, HIGH - 1, HIGH};
    private static final Edges edges = new Edges();

    private static void due(String call, int got, int want) {
        edges.due(call, got, want);
    }

    private static OneStair of(String text) {
        return Edges.of(text);
    }

    // ---- rows

    private static void p30() {
        edges.sentence(30, "ROWS by n: how many. BAD.");
        edges.range(Edges.SOME, "prove", 1, 20, BAD, (x, v) -> x.prove(v));
        edges.range(Edges.BRIM, "prove", 1, 20, BAD, (x, v) -> x.prove(v));
        edges.range(Edges.LATE, "prove", 1, 20, BAD, (x, v) -> x.prove(v));
        edges.changesOnly(Edges.SOME, "prove(20)", 20, x -> x.prove(20), "rows");
        edges.changesOnly(Edges.SOME, "prove(1)", 1, x -> x.prove(1), "rows");
        edges.changesOnly(Edges.LATE, "prove(20)", 0, x -> x.prove(20), "rows");
        OneStair x = Edges.BRIM.made();
        due("prove(1) behind 20", x.prove(1), 1);
        due("many(3)", x.many(3), 1);
        due("row(1, 0)", x.row(1, 0), NO_ROW);
        due("row(0, 0)", x.row(0, 0), 2);
        x.clock(120);
        due("prove(20) at 120", x.prove(20), 0);
        due("many(3)", x.many(3), 0);
        due("row(0, 0)", x.row(0, 0), NO_ROW);
        x.clock(119);
        due("prove(20) at 119", x.prove(20), 1);
        due("row(0, 0)", x.row(0, 0), 119);
        due("prove(1) at 119", x.prove(1), 1);
    }

    private static void p31() {
        edges.sentence(31, "Of ROW i: what = 0 MINUTE, 1 who has ARRIVED, 2 the sum of FLOORS. -9: there is none "
            + "such, another what.");
        edges.range(Edges.SOME, "ROW of row", 0, 4, NO_ROW, (x, v) -> x.row(v, 0));
        edges.range(Edges.BRIM, "ROW of row", 0, 19, NO_ROW, (x, v) -> x.row(v, 2));
        edges.range(Edges.SOME, "what of row", 0, 2, NO_ROW, (x, v) -> x.row(0, v));
        edges.changesNothing(Edges.NEW, "row(0, 0) of none", NO_ROW, x -> x.row(0, 0));
        int[][] want = {{3, 1, 22}, {4, 1, 21}, {5, -7, 21}, {6, 1, 20}, {7, 3, 19}};
        for (int i = 0; i < 5; i++) {
            for (int w = 0; w < 3; w++) {
                int row = i;
                int what = w;
                edges.changesNothing(Edges.SOME, "row(" + i + ", " + w + ")", want[i][w], x -> x.row(row, what));
            }
        }
    }

    private static void p32() {
        edges.sentence(32, "It becomes v: what it was. -9 likewise.");
        edges.range(Edges.SOME, "ROW of alterRow", 0, 4, NO_ROW, (x, v) -> x.alterRow(v, 0, 5));
        edges.range(Edges.BRIM, "ROW of alterRow", 0, 19, NO_ROW, (x, v) -> x.alterRow(v, 2, 5));
        edges.range(Edges.SOME, "what of alterRow", 0, 2, NO_ROW, (x, v) -> x.alterRow(0, v, 5));
        edges.changesNothing(Edges.NEW, "alterRow(0, 0, 5) of none", NO_ROW, x -> x.alterRow(0, 0, 5));
        edges.changesOnly(Edges.SOME, "alterRow(4, 2, 5)", 19, x -> x.alterRow(4, 2, 5), "rows");
        OneStair x = of("clerk 0 from 0 to 9;");
        x.prove(20);
        int[] all = {LOW, HIGH, 0, -1, -9};
        int was = 19;
        for (int v : all) {
            due("alterRow(19, 0, " + v + ")", x.alterRow(19, 0, v), was);
            due("row(19, 0)", x.row(19, 0), v);
            was = v;
        }
        due("row(18, 0)", x.row(18, 0), 18);
        due("row(19, 1)", x.row(19, 1), 1);
        due("row(19, 2)", x.row(19, 2), 9);
    }

    private static void p33() {
        edges.sentence(33, "THE READER takes ROWS: 0 all is right (also if there are none); else the first ROW that "
            + "isn't, and 1 more.");
        edges.changesNothing(Edges.NEW, "judge() of none", 0, x -> x.judge());
        edges.changesNothing(Edges.BRIM, "judge()", 0, x -> x.judge());
        edges.changesNothing(Edges.SOME, "judge()", 3, x -> x.judge());
        edges.changesNothing(Edges.LATE, "judge()", 1, x -> x.judge());
        for (int i = 0; i < 20; i++) {
            for (int what = 0; what < 3; what++) {
                OneStair x = Edges.BRIM.made();
                int was = x.row(i, what);
                x.alterRow(i, what, was + 1);
                due("judge(), row " + i, x.judge(), i + 1);
                x.alterRow(19, what, LOW);
                due("judge(), the first of two", x.judge(), i + 1);
                x.alterRow(i, what, was);
                due("judge(), the other", x.judge(), i == 19 ? 0 : 20);
            }
        }
        OneStair gone = Edges.BRIM.made();
        gone.minutes(1);
        due("judge(), a minute later", gone.judge(), 1);
        OneStair first = of("clerk 0 from 0 to 3;clerk 0 from 0 to 3;room 1;");
        first.prove(5);
        first.mind(1, Edges.CHIEF, 9);
        due("judge(), another goes first now", first.judge(), 3);
        OneStair end = of("clerk 0 from 0 to 0;");
        end.clock(120);
        end.prove(5);
        due("judge() of none, in the end", end.judge(), 0);
    }

    private static void p34() {
        edges.sentence(34, "n numbers (0 to 8) of a SHEET taken for shorts, from i on, become START of PEOPLE from "
            + "one on (held to 0 to 99): n.");
        edges.changesOnly(Edges.SOME, "starts(1, 0, 0, 4)", 4, x -> x.starts(1, 0, 0, 4), "people");
        edges.changesNothing(Edges.SOME, "starts(1, 0, 0, 0)", 0, x -> x.starts(1, 0, 0, 0));
        edges.changesNothing(Edges.SOME, "starts(1, 4, 3, 0), behind all items", 0, x -> x.starts(1, 4, 3, 0));
        OneStair x = Edges.SOME.made();
        x.starts(1, 0, 0, 4);
        edges.people(x, 4, 0, 99, 50, 99);
        edges.people(x, 6, 1, -9, -9, -9);
        edges.people(x, 5, 0, 1, 0, 0);
        int[][] held = {{-1, 0}, {0, 0}, {1, 1}, {98, 98}, {99, 99}, {100, 99}, {32767, 99}, {-32768, 0}, {32768, 0},
            {65535, 0}, {65536, 0}, {65635, 99}, {65586, 50}};
        for (int[] h : held) {
            x.put(1, 0, h[0]);
            due("starts of " + h[0], x.starts(1, 0, 2, 1), 1);
            due("START of " + h[0], x.personOf(2, 4), h[1]);
        }
        OneStair eight = Edges.BRIM.made();
        for (int i = 32; i < 40; i++) {
            eight.put(1, i, i);
        }
        due("starts(1, 32, 0, 8)", eight.starts(1, 32, 0, 8), 8);
        edges.people(eight, 4, 32, 33, 34, 35, 36, 37, 38, 39);
        due("starts(1, 0, 7, 1)", eight.starts(1, 0, 7, 1), 1);
        edges.people(eight, 4, 32, 33, 34, 35, 36, 37, 38, 0);
    }

    private static void p34Bad() {
        edges.sentence(34, "BAD: no such SHEET, PERSON, n, or n goes beyond the last one; -11; -13; -12.");
        edges.range(Edges.BRIM, "SHEET of starts", 0, 3, BAD, (x, v) -> x.starts(v, 0, 0, 1));
        edges.range(Edges.SOME, "PERSON of starts, of 0", 0, 3, BAD, (x, v) -> x.starts(1, 0, v, 0));
        edges.range(Edges.SOME, "PERSON of starts, of 1", 0, 3, BAD, (x, v) -> x.starts(1, 0, v, 1));
        edges.range(Edges.SOME, "PERSON of starts, of 2", 0, 2, BAD, (x, v) -> x.starts(1, 0, v, 2));
        edges.range(Edges.SOME, "n of starts, from 0 on", 0, 4, BAD, (x, v) -> x.starts(1, 0, 0, v));
        edges.range(Edges.SOME, "n of starts, from 3 on", 0, 1, BAD, (x, v) -> x.starts(1, 0, 3, v));
        edges.range(Edges.BRIM, "n of starts, of eight", 0, 8, BAD, (x, v) -> x.starts(1, 0, 0, v));
        edges.changesNothing(Edges.NEW, "starts(0, 0, 0, 0) of nobody", BAD, x -> x.starts(0, 0, 0, 0));
        int[][] bad = {{-1, 9, 0, 1}, {4, 9, 0, 1}, {3, 9, 4, 0}, {3, 9, -1, 0}, {3, 9, 0, -1}, {3, 9, 0, 9},
            {3, 9, 0, 5}, {2, 9, 0, 5}, {1, 9, 0, 5}, {3, 9, HIGH, HIGH}, {3, 9, 1, HIGH}, {3, 9, HIGH, 8}};
        for (int[] b : bad) {
            edges.changesNothing(Edges.SOME, "starts, BAD ahead of all", BAD, x -> x.starts(b[0], b[1], b[2], b[3]));
        }
        edges.changesNothing(Edges.SOME, "starts(3, 9, 0, 1), missing", MISSING, x -> x.starts(3, 9, 0, 1));
        edges.changesNothing(Edges.SOME, "starts(3, 0, 0, 0), missing", MISSING, x -> x.starts(3, 0, 0, 0));
        edges.changesNothing(Edges.SOME, "starts(0, 9, 0, 1), bytes", OTHER_SORT, x -> x.starts(0, 9, 0, 1));
        edges.changesNothing(Edges.SOME, "starts(2, 9, 0, 1), ints", OTHER_SORT, x -> x.starts(2, 9, 0, 1));
        edges.changesNothing(Edges.BRIM, "starts(3, 99, 0, 1), longs", OTHER_SORT, x -> x.starts(3, 99, 0, 1));
        edges.changesNothing(Edges.BRIM, "starts(3, 0, 0, 0), longs", OTHER_SORT, x -> x.starts(3, 0, 0, 0));
        edges.range(Edges.SOME, "i of starts, of 0", 0, 4, OUTSIDE, (x, v) -> x.starts(1, v, 0, 0));
        edges.range(Edges.SOME, "i of starts, of 1", 0, 3, OUTSIDE, (x, v) -> x.starts(1, v, 0, 1));
        edges.range(Edges.SOME, "i of starts, of 4", 0, 0, OUTSIDE, (x, v) -> x.starts(1, v, 0, 4));
        edges.range(Edges.BRIM, "i of starts, of 8", 0, 32, OUTSIDE, (x, v) -> x.starts(1, v, 0, 8));
        edges.range(Edges.BRIM, "i of starts, of 1", 0, 39, OUTSIDE, (x, v) -> x.starts(1, v, 7, 1));
        Edges.Scene empty = Edges.SOME.and("an empty row", x -> x.sheet(3, 1, 0));
        edges.range(empty, "i of starts of none", 0, 0, OUTSIDE, (x, v) -> x.starts(3, v, 0, 0));
        edges.changesNothing(empty, "starts(3, 0, 0, 1)", OUTSIDE, x -> x.starts(3, 0, 0, 1));
    }

    // ---- sheets

    private static void p35() {
        edges.sentence(35, "A SHEET becomes a row of n of a sort, all 0, or missing (sort -1; n counts nothing then): "
            + "1. BAD: no such SHEET, sort, n above 40; -14.");
        edges.range(Edges.SOME, "SHEET of sheet", 0, 3, BAD, (x, v) -> x.sheet(v, 2, 3));
        edges.range(Edges.SOME, "sort of sheet", -1, 3, BAD, (x, v) -> x.sheet(0, v, 3));
        int[] below = {-1, -2, LOW};
        int[] above = {41, 42, HIGH};
        for (int sort = 0; sort <= 3; sort++) {
            int s = sort;
            for (int n = 0; n <= 40; n++) {
                due("sheet(0, " + sort + ", " + n + ")", Edges.BRIM.made().sheet(0, sort, n), 1);
            }
            for (int n : above) {
                edges.changesNothing(Edges.BRIM, "sheet(0, .., " + n + ")", BAD, x -> x.sheet(0, s, n));
            }
            for (int n : below) {
                edges.changesNothing(Edges.BRIM, "sheet(0, .., " + n + ")", Edges.SIZE_BELOW_ZERO,
                    x -> x.sheet(0, s, n));
                edges.changesNothing(Edges.BRIM, "sheet(4, .., " + n + ")", BAD, x -> x.sheet(4, s, n));
                edges.changesNothing(Edges.BRIM, "sheet(-1, .., " + n + ")", BAD, x -> x.sheet(-1, s, n));
                edges.changesNothing(Edges.BRIM, "sheet(0, 4, " + n + ")", BAD, x -> x.sheet(0, 4, n));
                edges.changesNothing(Edges.BRIM, "sheet(0, -2, " + n + ")", BAD, x -> x.sheet(0, -2, n));
            }
        }
        for (int n : FAR) {
            edges.changesOnly(Edges.SOME, "sheet(0, -1, " + n + ")", 1, x -> x.sheet(0, -1, n), "sheets");
            edges.changesNothing(Edges.SOME, "sheet(3, -1, " + n + ")", 1, x -> x.sheet(3, -1, n));
            edges.changesNothing(Edges.SOME, "sheet(4, -1, " + n + ")", BAD, x -> x.sheet(4, -1, n));
        }
    }

    private static void p35AllZero() {
        edges.sentence(35, "all 0");
        edges.changesOnly(Edges.BRIM, "sheet(2, 1, 40)", 1, x -> x.sheet(2, 1, 40), "sheets");
        for (int sort = 0; sort <= 3; sort++) {
            OneStair x = new OneStair();
            x.sheet(1, 2, 40);
            for (int i = 0; i < 40; i++) {
                x.put(1, i, -1);
            }
            x.sheet(1, sort, 3);
            due("item(2)", x.item(1, sort, 2), 0);
            due("item(3)", x.item(1, sort, 3), OUTSIDE);
            x.sheet(1, sort, 40);
            for (int i = 0; i < 40; i++) {
                due("item(" + i + ")", x.item(1, sort, i), 0);
            }
            x.put(1, 0, -1);
            x.sheet(1, -1, 0);
            due("item(0), missing", x.item(1, sort, 0), MISSING);
            due("put(0), missing", x.put(1, 0, 5), MISSING);
            x.sheet(1, sort, 1);
            due("item(0)", x.item(1, sort, 0), 0);
            x.sheet(1, sort, 0);
            due("item(0) of none", x.item(1, sort, 0), OUTSIDE);
            due("put(0) of none", x.put(1, 0, 5), OUTSIDE);
        }
    }

    private static void p36() {
        edges.sentence(36, "Item i becomes v, narrowed to its sort: 1. BAD: no such SHEET; -11; -12.");
        edges.range(Edges.BRIM, "SHEET of put", 0, 3, BAD, (x, v) -> x.put(v, 0, 1));
        edges.changesOnly(Edges.BRIM, "put(3, 0, 1)", 1, x -> x.put(3, 0, 1), "sheets");
        for (int i : FAR) {
            edges.changesNothing(Edges.SOME, "put(4, " + i + ", 1), BAD ahead of all", BAD, x -> x.put(4, i, 1));
            edges.changesNothing(Edges.SOME, "put(3, " + i + ", 1), -11 ahead of -12", MISSING, x -> x.put(3, i, 1));
        }
        edges.changesNothing(Edges.SOME, "put(3, 0, 1)", MISSING, x -> x.put(3, 0, 1));
        edges.range(Edges.SOME, "i of put, five", 0, 4, OUTSIDE, (x, v) -> x.put(0, v, 1));
        edges.range(Edges.SOME, "i of put, three", 0, 2, OUTSIDE, (x, v) -> x.put(2, v, 1));
        for (int sheet = 0; sheet <= 3; sheet++) {
            int s = sheet;
            edges.range(Edges.BRIM, "i of put, forty", 0, 39, OUTSIDE, (x, v) -> x.put(s, v, 1));
        }
        int[][] narrowed = {{127, 127, 127}, {128, -128, 128}, {-128, -128, -128}, {-129, 127, -129}, {255, -1, 255},
            {256, 0, 256}, {32767, -1, 32767}, {32768, 0, -32768}, {-32768, 0, -32768}, {-32769, -1, 32767},
            {65535, -1, -1}, {65536, 0, 0}, {HIGH, -1, -1}, {LOW, 0, 0}, {0, 0, 0}, {-1, -1, -1}};
        OneStair x = Edges.BRIM.made();
        for (int[] n : narrowed) {
            for (int sheet = 0; sheet <= 3; sheet++) {
                due("put(" + sheet + ", 7, " + n[0] + ")", x.put(sheet, 7, n[0]), 1);
                int want = sheet >= 2 ? n[0] : n[1 + sheet];
                due("item(" + sheet + ", " + sheet + ", 7) of " + n[0], x.item(sheet, sheet, 7), want);
            }
        }
    }

    private static void p37() {
        edges.sentence(37, "Item i, taken for a sort (0 to 3; of longs the lowest 32 bits). BAD: no such SHEET, sort; "
            + "-11; -13; -12. (An item may be as low as these, too.)");
        edges.range(Edges.BRIM, "SHEET of item", 0, 3, BAD, (x, v) -> x.item(v, 0, 0));
        edges.range(Edges.SOME, "sort of item", 0, 3, BAD, (x, v) -> x.item(2, v, 0));
        for (int i : FAR) {
            edges.changesNothing(Edges.SOME, "item(3, 4, ..), BAD ahead of all", BAD, x -> x.item(3, 4, i));
            edges.changesNothing(Edges.SOME, "item(4, 0, ..), BAD ahead of all", BAD, x -> x.item(4, 0, i));
            edges.changesNothing(Edges.SOME, "item(-1, 0, ..), BAD ahead of all", BAD, x -> x.item(-1, 0, i));
            edges.changesNothing(Edges.SOME, "item(0, -1, ..), BAD ahead of all", BAD, x -> x.item(0, -1, i));
            edges.changesNothing(Edges.SOME, "item(3, 0, ..), -11", MISSING, x -> x.item(3, 0, i));
            edges.changesNothing(Edges.SOME, "item(0, 1, ..), -13 ahead of -12", OTHER_SORT, x -> x.item(0, 1, i));
        }
        for (int sheet = 0; sheet <= 3; sheet++) {
            int s = sheet;
            edges.range(Edges.BRIM, "i of item, forty", 0, 39, OUTSIDE, (x, v) -> x.item(s, s, v));
            for (int sort = 0; sort <= 3; sort++) {
                int want = sort == sheet ? 0 : OTHER_SORT;
                due("item(" + sheet + ", " + sort + ", 0)", Edges.BRIM.made().item(sheet, sort, 0), want);
            }
        }
        edges.range(Edges.SOME, "i of item, four", 0, 3, OUTSIDE, (x, v) -> x.item(1, 1, v));
        edges.changesNothing(Edges.BRIM, "item(3, 3, 39)", LOW, x -> x.item(3, 3, 39));
        OneStair x = Edges.BRIM.made();
        int[] low = {BAD, MISSING, OUTSIDE, OTHER_SORT, LOW, HIGH};
        for (int v : low) {
            x.put(2, 0, v);
            x.put(3, 0, v);
            due("item(2, 2, 0)", x.item(2, 2, 0), v);
            due("item(3, 3, 0)", x.item(3, 3, 0), v);
        }
    }

    // ---- shelves

    private static void p38() {
        edges.sentence(38, "A SHELF holds PERSON n (what 0), the row of SHEET n (1; nothing, if missing), nothing "
            + "(2): 1. BAD: no such SHELF, what, thing.");
        for (int what = 0; what <= 2; what++) {
            int w = what;
            edges.range(Edges.SOME, "SHELF of shelf", 0, 3, BAD, (x, v) -> x.shelf(v, w, 0));
        }
        edges.range(Edges.SOME, "what of shelf", 0, 2, BAD, (x, v) -> x.shelf(0, v, 0));
        edges.range(Edges.SOME, "PERSON of shelf", 0, 3, BAD, (x, v) -> x.shelf(0, 0, v));
        edges.range(Edges.BRIM, "PERSON of shelf", 0, 7, BAD, (x, v) -> x.shelf(0, 0, v));
        edges.range(Edges.SOME, "SHEET of shelf", 0, 3, BAD, (x, v) -> x.shelf(0, 1, v));
        edges.changesNothing(Edges.NEW, "shelf(0, 0, 0) of nobody", BAD, x -> x.shelf(0, 0, 0));
        edges.changesOnly(Edges.SOME, "shelf(2, 0, 2)", 1, x -> x.shelf(2, 0, 2), "shelves");
        edges.changesOnly(Edges.SOME, "shelf(0, 1, 0)", 1, x -> x.shelf(0, 1, 0), "shelves");
        for (int n : FAR) {
            edges.changesOnly(Edges.SOME, "shelf(0, 2, " + n + ")", 1, x -> x.shelf(0, 2, n), "shelves");
            edges.changesNothing(Edges.SOME, "shelf(2, 2, " + n + ")", 1, x -> x.shelf(2, 2, n));
            edges.changesNothing(Edges.SOME, "shelf(0, 3, " + n + ")", BAD, x -> x.shelf(0, 3, n));
            edges.changesNothing(Edges.SOME, "shelf(4, 2, " + n + ")", BAD, x -> x.shelf(4, 2, n));
        }
        edges.changesNothing(Edges.SOME, "shelf(2, 1, 3), a missing one", 1, x -> x.shelf(2, 1, 3));
        OneStair x = Edges.SOME.made();
        due("shelf(0, 1, 3), a missing one", x.shelf(0, 1, 3), 1);
        due("taken(0, 0)", x.taken(0, 0), MISSING);
        x.sheet(3, 1, 7);
        due("taken(0, 11): nothing stays nothing", x.taken(0, 11), MISSING);
        due("shelf(0, 1, 3)", x.shelf(0, 1, 3), 1);
        due("taken(0, 11)", x.taken(0, 11), 7);
        due("shelf(0, 0, 2)", x.shelf(0, 0, 2), 1);
        due("taken(0, 2)", x.taken(0, 2), 2);
        due("shelf(0, 2, 2)", x.shelf(0, 2, 2), 1);
        due("taken(0, 2)", x.taken(0, 2), MISSING);
        due("shelf(1, 2, 1)", x.shelf(1, 2, 1), 1);
        due("taken(1, 11)", x.taken(1, 11), MISSING);
    }

    private static void p39() {
        edges.sentence(39, "What a SHELF holds taken for a thing of KIND as (0 to 5, or one under it): its number; "
            + "for a row of sort as - 10 (as 10 to 13): how many items. BAD: no such SHELF, as; -11; -13.");
        edges.range(Edges.SOME, "SHELF of taken", 0, 3, BAD, (x, v) -> x.taken(v, 0));
        edges.range(Edges.SOME, "SHELF of taken", 0, 3, BAD, (x, v) -> x.taken(v, 13));
        for (int as = -2; as <= 16; as++) {
            boolean known = as >= 0 && as <= 5 || as >= 10 && as <= 13;
            int a = as;
            edges.changesNothing(Edges.SOME, "taken(2, " + as + ") of nothing", known ? MISSING : BAD,
                x -> x.taken(2, a));
            edges.changesNothing(Edges.SOME, "taken(4, " + as + ")", BAD, x -> x.taken(4, a));
            edges.changesNothing(Edges.SOME, "taken(0, " + as + ") of a limper",
                as == 0 || as == 1 ? 1 : known ? OTHER_SORT : BAD, x -> x.taken(0, a));
            edges.changesNothing(Edges.SOME, "taken(1, " + as + ") of shorts",
                as == 11 ? 4 : known ? OTHER_SORT : BAD, x -> x.taken(1, a));
        }
        for (int as : FAR) {
            edges.changesNothing(Edges.SOME, "taken(0, " + as + ")", BAD, x -> x.taken(0, as));
            edges.changesNothing(Edges.SOME, "taken(1, " + as + ")", BAD, x -> x.taken(1, as));
        }
        for (int sort = 0; sort <= 3; sort++) {
            for (int n = 0; n <= 40; n += 20) {
                OneStair x = new OneStair();
                x.sheet(0, sort, n);
                x.shelf(0, 1, 0);
                due("taken(0, ..) of " + n, x.taken(0, 10 + sort), n);
                due("taken(0, ..) for another sort", x.taken(0, 10 + (sort + 1) % 4), OTHER_SORT);
            }
        }
        noSuchOneAnyMore();
    }

    private static void noSuchOneAnyMore() {
        OneStair x = Edges.BRIM.made();
        due("taken(0, 4), the eighth", x.taken(0, 4), 7);
        x.tower();
        due("taken(0, 4), there is one PERSON only", x.taken(0, 4), MISSING);
        due("taken(0, 10), there is one PERSON only", x.taken(0, 10), MISSING);
        due("taken(0, 9), BAD ahead of -11", x.taken(0, 9), BAD);
        due("taken(2, 5), the first is a boy now", x.taken(2, 5), 0);
        due("taken(2, 3), and no chief", x.taken(2, 3), OTHER_SORT);
        due("taken(3, 13), the row stays", x.taken(3, 13), 40);
        x.again();
        due("taken(0, 4), the eighth again", x.taken(0, 4), 7);
    }

    private static void p40() {
        edges.sentence(40, "An ACT (0 to 3) of the thing on a SHELF, with x. 0, and no TRACE then: no such SHELF, "
            + "act, nothing, a row.");
        int[] shelves = {-1, 4, LOW, HIGH};
        int[] acts = {-1, 4, LOW, HIGH};
        for (int shelf : shelves) {
            noAct("act(" + shelf + ", 0, 5), no such SHELF", x -> x.act(shelf, 0, 5));
        }
        for (int act : acts) {
            noAct("act(0, " + act + ", 5), no such act", x -> x.act(0, act, 5));
        }
        for (int act = 0; act <= 3; act++) {
            int a = act;
            noAct("act(2, " + act + ", 5), nothing", x -> x.act(2, a, 5));
            noAct("act(1, " + act + ", 5), a row", x -> x.act(1, a, 5));
        }
        int[] want = {6, 11, Edges.PARTED_BY_ZERO, 10};
        int[][] bodies = {{10}, {20, 11, 10}, {12}, {13, 20, 11, 10}};
        for (int act = 0; act <= 3; act++) {
            int a = act;
            String[] changed = act == 3 ? new String[0] : new String[] {"trace"};
            edges.changesOnly(Edges.SOME, "act(0, " + act + ", 5)", want[act], x -> x.act(0, a, 5), changed);
            OneStair x = Edges.SOME.made();
            x.act(0, act, 5);
            edges.bodies(x, bodies[act]);
        }
        OneStair gone = Edges.SOME.made();
        due("act(3, 0, 5) of the boy", gone.act(3, 0, 5), 8);
        gone.again();
        due("act(3, 0, 5), there is no such one any more", gone.act(3, 0, 5), 0);
        edges.bodies(gone);
    }

    private static void noAct(String call, Edges.Call act) {
        edges.changesOnly(Edges.SOME, call, 0, act, "trace");
        OneStair x = Edges.SOME.made();
        act.on(x);
        edges.bodies(x);
    }

    private static void p41() {
        edges.sentence(41, "THE TRACE's i-th body. NONE.");
        edges.changesNothing(Edges.NEW, "trace(0) of none", NONE, x -> x.trace(0));
        edges.range(Edges.SOME, "trace", 0, 3, NONE, (x, v) -> x.trace(v));
        edges.range(Edges.BRIM, "trace", 0, 10, NONE, (x, v) -> x.trace(v));
        int[] bodies = {13, 20, 11, 10};
        for (int i = 0; i < 4; i++) {
            int place = i;
            edges.changesNothing(Edges.SOME, "trace(" + i + ")", bodies[i], x -> x.trace(place));
        }
        int[] behind = {29, 30, 31};
        for (int i : behind) {
            edges.changesNothing(Edges.BRIM, "trace(" + i + ")", NONE, x -> x.trace(i));
        }
    }

    private static void p42() {
        edges.sentence(42, "How many: what = 0 PEOPLE, 1 HATS, 2 who have ARRIVED, 3 ROWS, 4 bytes of THE TAPE, "
            + "5 bodies of THE TRACE. BAD: another what.");
        Edges.Scene[] scenes = {Edges.NEW, Edges.SOME, Edges.BRIM};
        int[][] want = {{0, 0, 0, 0, 0, 0}, {4, 3, 1, 5, 42, 4}, {8, 4, 1, 20, 240, 11}};
        for (int s = 0; s < 3; s++) {
            edges.range(scenes[s], "many", 0, 5, BAD, (x, v) -> x.many(v));
            for (int w = 0; w <= 5; w++) {
                int what = w;
                edges.changesNothing(scenes[s], "many(" + w + ")", want[s][w], x -> x.many(what));
            }
        }
        OneStair x = of("clerk 0 from 0 to 0;".repeat(8));
        for (int p = 0; p < 8; p++) {
            due("many(2)", x.many(2), p == 0 ? 0 : 8);
            x.minutes(1);
        }
        due("sends(7, 0, 0)", x.sends(7, 0, 0), 0);
        due("many(2)", x.many(2), 7);
    }

    // ---- kept

    private static void p43() {
        edges.sentence(43, "All but THE TAPE, ROWS, SHEETS, SHELVES, THE TRACE is kept: 1.");
        edges.changesOnly(Edges.NEW, "keep()", 1, x -> x.keep(), "kept");
        edges.changesOnly(Edges.SOME, "keep()", 1, x -> x.keep(), "kept");
        edges.changesNothing(Edges.BRIM, "keep(), as it is kept by now", 1, x -> x.keep());
        Edges.Scene kept = Edges.BRIM.and("kept", x -> x.seed(LOW), x -> x.keep());
        Edges.Scene other = kept.and("another", x -> x.person(0, 0, 0, 0), x -> x.mind(0, 5, 5), x -> x.sends(3, 9, 9),
            x -> x.stand(5, 5), x -> x.minutes(60), x -> x.sweep(1), x -> x.room(9), x -> x.lot(2), x -> x.clock(120));
        OneStair x = other.made();
        due("again()", x.again(), 2);
        OneStair y = kept.made();
        for (int p = 0; p < 8; p++) {
            for (int what = 0; what <= 8; what++) {
                due("personOf(" + p + ", " + what + ")", x.personOf(p, what), y.personOf(p, what));
            }
        }
        for (int f = 0; f <= 8; f++) {
            for (int m = 0; m <= 38; m += 3) {
                due("closed(" + f + ", " + m + ")", x.closed(f, m), y.closed(f, m));
            }
        }
        due("many(1)", x.many(1), 4);
        due("minute()", x.minute(), 2);
        due("room(1)", x.room(1), 2);
        due("seed(0)", x.seed(0), LOW);
    }

    private static void p44() {
        edges.sentence(44, "It becomes what was kept latest (which stays): MINUTE. NONE: nothing is kept.");
        edges.changesNothing(Edges.NEW, "again()", NONE, x -> x.again());
        Edges.Scene unkept = new Edges.Scene("nothing is kept").with(x -> x.person(0, 0, 0, 9), x -> x.minutes(5));
        edges.changesNothing(unkept, "again()", NONE, x -> x.again());
        edges.changesOnly(Edges.SOME, "again()", 3, x -> x.again(), "people", "hats", "room", "z", "shelves");
        edges.changesOnly(Edges.LATE, "again()", 3, x -> x.again(), "people", "hats", "room", "z", "minute", "shelves");
        edges.changesNothing(Edges.BRIM, "again(), as it is", 2, x -> x.again());
        OneStair x = new OneStair();
        due("keep() of nobody", x.keep(), 1);
        x.person(0, 0, 0, 9);
        x.clock(120);
        due("again() to nobody", x.again(), 0);
        due("many(0)", x.many(0), 0);
        x.clock(120);
        x.keep();
        x.clock(7);
        due("again(), the latest", x.again(), 120);
        x.clock(8);
        due("again(), it stays", x.again(), 120);
        x.person(0, 0, 0, 9);
        due("again(), it stays", x.again(), 120);
        due("many(0)", x.many(0), 0);
        OneStair y = of("clerk 0 from 0 to 9;");
        y.keep();
        y.again();
        y.minutes(3);
        y.mind(0, 1, 1);
        due("again()", y.again(), 0);
        edges.people(y, 2, 0);
        edges.people(y, 0, 0);
    }

    public static void main(String[] args) {
        p30();
        p31();
        p32();
        p33();
        p34();
        p34Bad();
        p35();
        p35AllZero();
        p36();
        p37();
        p38();
        p39();
        p40();
        p41();
        p42();
        p43();
        p44();
        edges.allOf(30, 44);
        edges.end();
    }
}
