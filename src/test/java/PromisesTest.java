/** Each promise of the document by its number: ordinary inputs, the edges that it names, and wrong inputs. */
public final class PromisesTest {
    private static final int LOW = Integer.MIN_VALUE, HIGH = Integer.MAX_VALUE;
    private static final int CLERK = 0, LIMPER = 1, RUNNER = 2, CHIEF = 3, PORTER = 4, BOY = 5;
    private static int wrong = 0;
    private static int promise = 0;

    private static void due(String call, int got, int want) {
        if (got != want) {
            wrong++;
            System.out.println("promise " + promise + ": " + call + " answered " + got + ", due is " + want);
        }
    }

    private static int feedText(OneStair x, String text) {
        int n = 0;
        for (int i = 0; i < text.length(); i++) {
            n = x.feed(text.charAt(i), 1);
        }
        return n;
    }

    private static int towerOf(OneStair x, String text) {
        feedText(x, text);
        return x.tower();
    }

    private static OneStair of(String text) {
        OneStair x = new OneStair();
        if (towerOf(x, text) < 0) {
            throw new IllegalArgumentException(text);
        }
        return x;
    }

    private static void fault(String text, int place) {
        OneStair x = of("clerk 1 from 2 to 3; hat 1 at 1 for 1; room 5;");
        due("tower() of \"" + text + "\"", towerOf(x, text), -100 - place);
        due("many(0) behind a fault", x.many(0), 1);
        due("many(1) behind a fault", x.many(1), 1);
        due("many(4) behind a fault", x.many(4), 0);
        due("room(1) behind a fault", x.room(1), 5);
    }

    private static void persons(OneStair x, int what, int... want) {
        for (int p = 0; p < want.length; p++) {
            due("personOf(" + p + ", " + what + ")", x.personOf(p, what), want[p]);
        }
    }

    private static void trace(OneStair x, int... want) {
        due("many(5)", x.many(5), want.length);
        for (int i = 0; i < want.length; i++) {
            due("trace(" + i + ")", x.trace(i), want[i]);
        }
        due("trace behind the last", x.trace(want.length), -3);
    }

    private static void p01NewObject() {
        promise = 1;
        OneStair x = new OneStair();
        for (int what = 0; what < 6; what++) {
            due("many(" + what + ")", x.many(what), 0);
        }
        due("minute()", x.minute(), 0);
        due("room(3)", x.room(3), 2);
        due("seed(5)", x.seed(5), 1);
        due("again()", x.again(), -3);
        for (int i = 0; i < 4; i++) {
            due("item(" + i + ", 0, 0)", x.item(i, 0, 0), -11);
            due("taken(" + i + ", 0)", x.taken(i, 0), -11);
        }
        due("BAD", OneStair.BAD, -1);
        due("FULL", OneStair.FULL, -2);
        due("NONE", OneStair.NONE, -3);
        due("STATE", OneStair.STATE, -4);
    }

    private static void p02Feed() {
        promise = 2;
        OneStair x = new OneStair();
        due("feed(.., 0)", x.feed(1L, 0), -1);
        due("feed(.., 9)", x.feed(1L, 9), -1);
        due("feed(.., LOW)", x.feed(1L, LOW), -1);
        due("feed(.., HIGH)", x.feed(1L, HIGH), -1);
        for (int i = 1; i <= 29; i++) {
            due("feed(.., 8)", x.feed(0x2020202020202020L, 8), 8 * i);
        }
        due("feed(.., 7)", x.feed(0x20202020202020L, 7), 239);
        due("feed(.., 2) beyond 240", x.feed(0x2020L, 2), -2);
        due("feed(.., 0) when full", x.feed(0x2020L, 0), -1);
        due("feed(.., 1)", x.feed(0x20L, 1), 240);
        due("feed(.., 1) beyond 240", x.feed(0x20L, 1), -2);
        due("many(4)", x.many(4), 240);
        due("tower() of 240 blanks", x.tower(), 0);
        due("feed(\"room 7;\") lowest byte first", x.feed(0xff3b37206d6f6f72L, 7), 7);
        due("tower()", x.tower(), 0);
        due("room(2)", x.room(2), 7);
        due("feed a byte above 127", x.feed(0xe9L, 1), 1);
        due("tower()", x.tower(), -100);
    }

    private static void p03Tower() {
        promise = 3;
        OneStair x = new OneStair();
        x.person(CLERK, 1, 1, 1);
        x.hat(1, 1, 1);
        x.room(9);
        x.seed(77);
        x.minutes(5);
        x.prove(4);
        due("tower()", towerOf(x, "clerk 1 from 2 to 3;limper 9 from 0 to 9 at 99 ;  boy 0 from 9 to 0 at 07;"), 3);
        persons(x, 0, CLERK, LIMPER, BOY);
        persons(x, 1, 1, 9, 0);
        persons(x, 2, 2, 0, 9);
        persons(x, 3, 3, 9, 0);
        persons(x, 4, 0, 99, 7);
        persons(x, 6, -9, -9, -9);
        due("many(1)", x.many(1), 0);
        due("many(3)", x.many(3), 0);
        due("minute()", x.minute(), 0);
        due("room(2)", x.room(2), 2);
        due("seed(1)", x.seed(1), 77);
        due("tower() of six kinds", towerOf(x, "clerk 0 from 0 to 0;limper 0 from 0 to 0;runner 0 from 0 to 0;"
            + "chief 0 from 0 to 0;porter 0 from 0 to 0;boy 0 from 0 to 0;"), 6);
        persons(x, 0, CLERK, LIMPER, RUNNER, CHIEF, PORTER, BOY);
        due("tower() of hats", towerOf(x, "hat 8 at 99 for 30;hat 0 at 0 for 1;room 9;room 1;"), 0);
        due("closed(8, 99)", x.closed(8, 99), 1);
        due("closed(8, 98)", x.closed(8, 98), 0);
        due("closed(0, 0)", x.closed(0, 0), 1);
        due("room(2)", x.room(2), 1);
        due("tower() without blanks", towerOf(x, "clerk1from2to3at4;"), 1);
        persons(x, 4, 4);
        due("tower() with many blanks", towerOf(x, "   chief   1  from 02 to  3   at 4   ;   "), 1);
        due("tower() of nothing", x.tower(), 0);
        due("many(0)", x.many(0), 0);
        faults();
        due("z of a new object", new OneStair().seed(0), 1);
        OneStair z = new OneStair();
        z.seed(5);
        due("at 0", towerOf(z, "boy 0 from 0 to 0 at 0;"), 1);
        due("z stays", z.seed(0), 5);
        OneStair y = of("clerk 1 from 2 to 3;");
        y.prove(3);
        towerOf(y, "x");
        due("rows stay behind a fault", y.many(3), 3);
    }

    private static void faults() {
        String eight = "boy 0 from 0 to 0;".repeat(8);
        fault("x", 0);
        fault("  clerks 1 from 2 to 3;", 2);
        fault("xlerk 1 from 2 to 3;", 0);
        fault("roomz 5;", 0);
        fault("rooma 5;", 0);
        fault("room{5;", 4);
        fault("room`5;", 4);
        fault("room /5;", 5);
        fault("room :5;", 5);
        fault("hat 9 at 1 for 1;", 4);
        fault("hat 10 at 1 for 1;", 4);
        fault("cler 1 from 2 to 3;", 0);
        fault("Clerk 1 from 2 to 3;", 0);
        fault("clerk\t1 from 2 to 3;", 5);
        fault("clerk x from 2 to 3;", 6);
        fault("clerk -1 from 2 to 3;", 6);
        fault("clerk 1 2 from 2 to 3;", 8);
        fault("clerk 1 fro 2 to 3;", 8);
        fault("clerk 1 fromm 2 to 3;", 8);
        fault("clerk 1 from to 2;", 13);
        fault("clerk 1 from 2 from 3;", 15);
        fault("clerk 1 from 2 to 3 for 4;", 20);
        fault("clerk 1 from 2 to 3 at 4 at 5;", 25);
        fault("clerk 1 from 2 to 3 4;", 20);
        fault("clerk 1 from 2 to 3,", 19);
        fault("clerk 1 from 2 to 3", 19);
        fault("clerk 1 from 2 to 3  ", 21);
        fault("clerk 1 from 2 to 3 at", 22);
        fault("clerk 1 from 2 to 3 at 100;", 23);
        fault("clerk 1 from 2 to 3;;", 20);
        fault("clerk 1 from 2 to 3;1", 20);
        fault("hat 1 at 1 for 0;", 15);
        fault("hat 1 at 1 for 31;", 15);
        fault("hat 1 at 1 for 30", 17);
        fault("hat 1 at 1 at 1;", 11);
        fault("hat from", 4);
        fault("room;", 4);
        fault("room 5 room", 7);
        fault("room 99999999999;", 5);
        fault("room 005;", 5);
        fault(eight + " clerk 0 from 0 to 0;", 145);
        fault(eight + " x", 145);
        fault(" ".repeat(234) + "room 5", 240);
        fault(" ".repeat(236) + "room", 240);
        fault("hat 1 at 1 for 1;".repeat(4) + " room 1; hat x", 77);
    }

    private static void p04Room() {
        promise = 4;
        OneStair x = new OneStair();
        due("room(1)", x.room(1), 2);
        due("room(9)", x.room(9), 1);
        due("room(0)", x.room(0), -1);
        due("room(10)", x.room(10), -1);
        due("room(LOW)", x.room(LOW), -1);
        due("room(9)", x.room(9), 9);
    }

    private static void p05Hat() {
        promise = 5;
        OneStair x = new OneStair();
        int[][] bad = {{-1, 0, 1}, {9, 0, 1}, {0, -1, 1}, {0, 100, 1}, {0, 0, 0}, {0, 0, 31}, {LOW, HIGH, LOW}};
        for (int[] b : bad) {
            due("hat(" + b[0] + ", " + b[1] + ", " + b[2] + ")", x.hat(b[0], b[1], b[2]), -1);
        }
        due("hat(0, 0, 1)", x.hat(0, 0, 1), 1);
        due("hat(8, 99, 30)", x.hat(8, 99, 30), 2);
        due("hat(3, 5, 2)", x.hat(3, 5, 2), 3);
        due("hat(3, 5, 2)", x.hat(3, 5, 2), 4);
        due("hat(3, 5, 2)", x.hat(3, 5, 2), -2);
        due("hat(9, 5, 2)", x.hat(9, 5, 2), -1);
        due("many(1)", x.many(1), 4);
    }

    private static void p06Sweep() {
        promise = 6;
        OneStair x = new OneStair();
        due("sweep(0)", x.sweep(0), -1);
        x.hat(1, 0, 30);
        x.hat(2, 0, 30);
        x.hat(3, 0, 30);
        due("sweep(3)", x.sweep(3), -1);
        due("sweep(-1)", x.sweep(-1), -1);
        due("sweep(HIGH)", x.sweep(HIGH), -1);
        due("sweep(1)", x.sweep(1), 2);
        due("closed(1, 0)", x.closed(1, 0), 1);
        due("closed(2, 0)", x.closed(2, 0), 0);
        due("closed(3, 0)", x.closed(3, 0), 1);
        due("sweep(0)", x.sweep(0), 1);
        due("closed(1, 0)", x.closed(1, 0), 0);
        due("closed(3, 0)", x.closed(3, 0), 1);
        due("sweep(0)", x.sweep(0), 0);
        x.hat(1, 10, 1);
        x.hat(2, 20, 2);
        x.hat(3, 30, 3);
        due("sweep(0)", x.sweep(0), 2);
        int[][] closed = {{1, 10, 0}, {2, 10, 0}, {2, 19, 0}, {2, 20, 1}, {2, 21, 1}, {2, 22, 0}, {3, 20, 0},
            {3, 30, 1}, {3, 32, 1}, {3, 33, 0}};
        for (int[] c : closed) {
            due("closed(" + c[0] + ", " + c[1] + ")", x.closed(c[0], c[1]), c[2]);
        }
        due("hat(4, 40, 4)", x.hat(4, 40, 4), 3);
        due("hat(5, 50, 5)", x.hat(5, 50, 5), 4);
        due("sweep(3), the last of four", x.sweep(3), 3);
        due("sweep(0)", x.sweep(0), 2);
        due("closed(4, 43)", x.closed(4, 43), 1);
        due("closed(5, 50)", x.closed(5, 50), 0);
    }

    private static void p07Closed() {
        promise = 7;
        OneStair x = new OneStair();
        x.hat(4, 10, 3);
        x.hat(4, 12, 2);
        x.hat(8, 99, 30);
        int[] want = {0, 1, 1, 1, 1, 0};
        for (int m = 9; m < 15; m++) {
            due("closed(4, " + m + ")", x.closed(4, m), want[m - 9]);
        }
        due("closed(3, 10)", x.closed(3, 10), 0);
        due("closed(5, 10)", x.closed(5, 10), 0);
        due("closed(8, 119)", x.closed(8, 119), 1);
        due("closed(8, 120)", x.closed(8, 120), -1);
        due("closed(8, -1)", x.closed(8, -1), -1);
        due("closed(9, 0)", x.closed(9, 0), -1);
        due("closed(-1, 0)", x.closed(-1, 0), -1);
    }

    private static void p08Person() {
        promise = 8;
        OneStair x = new OneStair();
        int[][] bad = {{-1, 0, 0, 0}, {6, 0, 0, 0}, {0, -1, 0, 0}, {0, 10, 0, 0}, {0, 0, -1, 0}, {0, 0, 10, 0},
            {0, 0, 0, -1}, {0, 0, 0, 10}, {HIGH, LOW, HIGH, LOW}};
        for (int[] b : bad) {
            due("person(" + b[0] + ", ..)", x.person(b[0], b[1], b[2], b[3]), -1);
        }
        due("person(5, 9, 8, 7)", x.person(5, 9, 8, 7), 0);
        int[] of = {5, 9, 8, 7, 0, 0, -9, 0, 14};
        for (int what = 0; what < 9; what++) {
            due("personOf(0, " + what + ")", x.personOf(0, what), of[what]);
        }
        x.clock(98);
        due("person(0, 0, 0, 9)", x.person(0, 0, 0, 9), 1);
        x.clock(120);
        due("person(0, 0, 0, 9)", x.person(0, 0, 0, 9), 2);
        persons(x, 4, 0, 98, 99);
        for (int i = 3; i < 8; i++) {
            due("person(0, 0, 0, 9)", x.person(0, 0, 0, 9), i);
        }
        due("person(0, 0, 0, 9)", x.person(0, 0, 0, 9), -2);
        due("person(6, 0, 0, 9)", x.person(6, 0, 0, 9), -1);
    }

    private static void p09PersonOf() {
        promise = 9;
        OneStair x = of("clerk 9 from 0 to 1;limper 9 from 0 to 1;runner 9 from 0 to 1;chief 9 from 0 to 1;"
            + "porter 4 from 0 to 1;porter 5 from 0 to 1;boy 0 from 0 to 1;boy 7 from 1 to 1;");
        persons(x, 7, 1, 1, 1, 1, 1, 2, 0, 0);
        persons(x, 8, 5, 7, 4, 0, 6, 6, 5, 12);
        due("personOf(8, 0)", x.personOf(8, 0), -1);
        due("personOf(-1, 0)", x.personOf(-1, 0), -1);
        due("personOf(0, 9)", x.personOf(0, 9), -1);
        due("personOf(0, -1)", x.personOf(0, -1), -1);
        x.room(9);
        x.minutes(1);
        persons(x, 2, 1, 0, 1, 1, 0, 0, 0, 1);
        persons(x, 5, 0, 1, 0, 0, 1, 1, 0, 0);
        persons(x, 6, 0, -9, 0, 0, -9, -9, -9, 0);
    }

    private static void p10Mind() {
        promise = 10;
        OneStair x = of("limper 1 from 0 to 5;clerk 2 from 3 to 3;");
        x.minutes(1);
        due("personOf(0, 5)", x.personOf(0, 5), 1);
        due("mind(0, 6, 0)", x.mind(0, 6, 0), -1);
        due("mind(0, -1, 0)", x.mind(0, -1, 0), -1);
        due("mind(0, 0, 10)", x.mind(0, 0, 10), -1);
        due("mind(0, 0, -1)", x.mind(0, 0, -1), -1);
        due("mind(2, 0, 0)", x.mind(2, 0, 0), -1);
        due("personOf(0, 5)", x.personOf(0, 5), 1);
        due("mind(0, 4, 7)", x.mind(0, 4, 7), 1);
        due("personOf(0, 5)", x.personOf(0, 5), 0);
        due("personOf(0, 1)", x.personOf(0, 1), 7);
        due("mind(0, 0, 7)", x.mind(0, 0, 7), 4);
        due("mind(1, 3, 7)", x.mind(1, 3, 7), 0);
        due("who has arrived has done so still", x.personOf(1, 6), 0);
    }

    private static void p11Sends() {
        promise = 11;
        OneStair x = of("limper 1 from 0 to 5;clerk 2 from 3 to 3;");
        x.minutes(1);
        due("sends(0, 10, 0)", x.sends(0, 10, 0), -1);
        due("sends(0, -1, 0)", x.sends(0, -1, 0), -1);
        due("sends(0, 5, 100)", x.sends(0, 5, 100), -1);
        due("sends(0, 5, -1)", x.sends(0, 5, -1), -1);
        due("sends(2, 5, 0)", x.sends(2, 5, 0), -1);
        due("personOf(0, 5)", x.personOf(0, 5), 1);
        due("sends(0, 5, 99), the same goal", x.sends(0, 5, 99), 5);
        due("personOf(0, 5)", x.personOf(0, 5), 0);
        due("personOf(0, 4)", x.personOf(0, 4), 99);
        due("personOf(1, 6)", x.personOf(1, 6), 0);
        due("sends(1, 3, 2)", x.sends(1, 3, 2), 3);
        due("personOf(1, 6)", x.personOf(1, 6), -9);
        x.minutes(1);
        due("START is not yet", x.personOf(1, 6), -9);
        x.minutes(1);
        due("personOf(1, 6)", x.personOf(1, 6), 2);
        due("sends(1, 0, 0)", x.sends(1, 0, 0), 3);
        due("personOf(1, 3)", x.personOf(1, 3), 0);
    }

    private static void p12Stand() {
        promise = 12;
        OneStair x = of("limper 1 from 0 to 5;clerk 2 from 3 to 3;");
        x.minutes(1);
        due("stand(0, 10)", x.stand(0, 10), -1);
        due("stand(0, -1)", x.stand(0, -1), -1);
        due("stand(2, 0)", x.stand(2, 0), -1);
        due("personOf(0, 5)", x.personOf(0, 5), 1);
        due("stand(0, 0)", x.stand(0, 0), 0);
        due("personOf(0, 5)", x.personOf(0, 5), 0);
        due("stand(0, 9)", x.stand(0, 9), 0);
        due("stand(1, 7)", x.stand(1, 7), 3);
        due("personOf(1, 6)", x.personOf(1, 6), 0);
        x.minutes(2);
        persons(x, 2, 8, 7);
    }

    private static void p13Minute() {
        promise = 13;
        OneStair x = new OneStair();
        due("minute()", x.minute(), 0);
        x.minutes(7);
        due("minute()", x.minute(), 7);
        x.clock(120);
        due("minute()", x.minute(), 120);
    }

    private static void p14Minutes() {
        promise = 14;
        OneStair x = of("clerk 0 from 0 to 3;runner 1 from 9 to 1;limper 0 from 5 to 4;boy 2 from 0 to 9;"
            + "chief 0 from 2 to 2 at 3;");
        due("minutes(-1)", x.minutes(-1), -1);
        due("minutes(61)", x.minutes(61), -1);
        due("minutes(0)", x.minutes(0), 0);
        due("minutes(2)", x.minutes(2), 2);
        persons(x, 2, 2, 7, 4, 2, 2);
        persons(x, 6, -9, -9, 1, -9, -9);
        due("minutes(2)", x.minutes(2), 4);
        persons(x, 2, 3, 3, 4, 3, 2);
        persons(x, 6, 2, -9, 1, -9, 3);
        due("minutes(60)", x.minutes(60), 64);
        due("minutes(60)", x.minutes(60), 120);
        due("minutes(60)", x.minutes(60), 120);
        ranksAndRoom();
        lanes();
        halvesNeedRoom();
    }

    private static void ranksAndRoom() {
        OneStair x = of("limper 0 from 0 to 9;clerk 0 from 0 to 9;clerk 1 from 0 to 9;porter 9 from 0 to 9;"
            + "runner 9 from 0 to 9;boy 9 from 0 to 9;chief 9 from 0 to 9;");
        x.minutes(1);
        persons(x, 2, 0, 0, 0, 0, 1, 1, 1);
        persons(x, 5, 0, 0, 0, 0, 0, 0, 0);
        x.minutes(1);
        persons(x, 2, 0, 1, 1, 0, 2, 2, 2);
        x.minutes(1);
        persons(x, 2, 0, 2, 2, 0, 3, 3, 3);
        persons(x, 5, 0, 0, 0, 1, 0, 0, 0);
        x.minutes(1);
        persons(x, 2, 0, 3, 3, 1, 4, 3, 4);
        persons(x, 5, 0, 0, 0, 0, 0, 0, 0);
        OneStair y = of("clerk 0 from 0 to 9;clerk 0 from 0 to 9;room 1;hat 2 at 0 for 5;");
        y.minutes(5);
        persons(y, 2, 2, 2);
        y.minutes(1);
        persons(y, 2, 3, 2);
    }

    private static void lanes() {
        OneStair x = of("clerk 0 from 4 to 5;clerk 0 from 5 to 4;runner 0 from 3 to 9;room 1;");
        x.minutes(1);
        persons(x, 2, 5, 4, 4);
        x.minutes(1);
        persons(x, 2, 5, 4, 6);
        OneStair y = of("runner 0 from 0 to 3;runner 0 from 1 to 9 at 1;room 1;");
        y.minutes(2);
        persons(y, 2, 3, 1);
        OneStair z = of("hat 1 at 1 for 1;runner 0 from 0 to 2 at 1;");
        z.minutes(2);
        persons(z, 2, 1);
    }

    private static void halvesNeedRoom() {
        OneStair x = of("limper 0 from 0 to 1;clerk 0 from 0 to 1 at 1;room 1;");
        x.minutes(2);
        persons(x, 5, 1, 0);
        persons(x, 2, 0, 1);
        x.minutes(1);
        persons(x, 6, 2, 1);
        OneStair y = of("porter 5 from 1 to 0;room 1;");
        y.minutes(60);
        persons(y, 2, 1);
        y.room(2);
        y.minutes(2);
        persons(y, 6, 61);
    }

    private static void p15Clock() {
        promise = 15;
        OneStair x = of("clerk 0 from 0 to 1;");
        due("clock(-1)", x.clock(-1), -1);
        due("clock(121)", x.clock(121), -1);
        due("clock(50)", x.clock(50), 0);
        due("clock(120)", x.clock(120), 50);
        due("clock(0)", x.clock(0), 120);
        x.clock(60);
        x.minutes(1);
        x.clock(3);
        persons(x, 2, 1);
        persons(x, 6, 60);
    }

    private static void p16When() {
        promise = 16;
        OneStair x = of("clerk 0 from 0 to 4 at 3;limper 0 from 9 to 6;boy 0 from 5 to 8;chief 2 from 0 to 9;"
            + "porter 9 from 0 to 1;room 1;");
        due("when(0)", x.when(0), 6);
        due("when(1)", x.when(1), 5);
        due("when(2)", x.when(2), 3);
        due("when(3)", x.when(3), 5);
        due("when(4)", x.when(4), -3);
        due("when(5)", x.when(5), -1);
        due("when(-1)", x.when(-1), -1);
        due("minute()", x.minute(), 0);
        persons(x, 2, 0, 9, 5, 0, 0);
        x.minutes(7);
        due("when(0), arrived", x.when(0), 6);
        x.clock(120);
        due("when(1) at the end", x.when(1), 5);
        OneStair y = new OneStair();
        y.person(CLERK, 0, 0, 3);
        due("when(0)", y.when(0), 2);
        y.sends(0, 5, 1);
        due("when(0) of now", y.when(0), 5);
    }

    private static void p17Last() {
        promise = 17;
        OneStair x = new OneStair();
        due("last()", x.last(), -3);
        x.person(CLERK, 0, 0, 3);
        due("last()", x.last(), 2);
        x.person(LIMPER, 0, 0, 3);
        due("last()", x.last(), 5);
        x.minutes(6);
        due("last()", x.last(), 5);
        x.person(PORTER, 5, 0, 3);
        due("last()", x.last(), 11);
        x.room(1);
        due("last()", x.last(), -3);
        x.clock(120);
        x.room(2);
        due("last()", x.last(), -3);
    }

    private static void p18Waited() {
        promise = 18;
        OneStair x = of("clerk 0 from 0 to 2;clerk 0 from 0 to 2;clerk 0 from 0 to 2 at 4;boy 0 from 0 to 4;"
            + "clerk 0 from 5 to 5 at 9;porter 9 from 9 to 0 at 20;room 1;hat 1 at 5 for 2;");
        due("waited(0)", x.waited(0), 0);
        due("waited(1)", x.waited(1), 1);
        due("waited(2)", x.waited(2), 2);
        due("a boy's rests are waiting", x.waited(3), 2);
        due("waited(4)", x.waited(4), 0);
        due("waited(5)", x.waited(5), 100);
        due("waited(6)", x.waited(6), -1);
        due("waited(-1)", x.waited(-1), -1);
        x.clock(30);
        due("waited(5)", x.waited(5), 90);
        OneStair y = of("limper 0 from 0 to 2;");
        due("halves are no waiting", y.waited(0), 0);
    }

    private static void p19Crowd() {
        promise = 19;
        OneStair x = of("clerk 0 from 0 to 2;clerk 0 from 0 to 2;clerk 0 from 2 to 0;porter 5 from 7 to 8 at 9;"
            + "boy 0 from 8 to 9;room 9;");
        int[] want = {2, 2, 0, 0, 0, 0, 0, 2, 0};
        for (int f = 0; f < 9; f++) {
            due("crowd(" + f + ")", x.crowd(f), want[f]);
        }
        due("crowd(9)", x.crowd(9), -1);
        due("crowd(-1)", x.crowd(-1), -1);
        x.clock(120);
        due("crowd(0)", x.crowd(0), 0);
    }

    private static void p20There() {
        promise = 20;
        OneStair x = of("clerk 0 from 0 to 3;clerk 0 from 5 to 3;limper 0 from 3 to 4;");
        due("there(3, 0)", x.there(3, 0), 1);
        due("there(3, 1)", x.there(3, 1), 1);
        due("there(3, 2)", x.there(3, 2), 2);
        due("there(4, 0)", x.there(4, 0), 1);
        due("there(4, 1)", x.there(4, 1), 1);
        due("there(3, 119)", x.there(3, 119), 2);
        due("there(3, 120)", x.there(3, 120), -1);
        due("there(3, -1)", x.there(3, -1), -1);
        due("there(10, 0)", x.there(10, 0), -1);
        due("there(-1, 0)", x.there(-1, 0), -1);
        x.minutes(2);
        due("there(3, 1)", x.there(3, 1), -1);
        due("there(3, 2)", x.there(3, 2), 2);
    }

    private static void p21Drill() {
        promise = 21;
        OneStair x = new OneStair();
        due("drill()", x.drill(), -3);
        x.person(CLERK, 0, 0, 9);
        due("drill()", x.drill(), 1);
        x.person(CLERK, 0, 4, 4);
        x.sends(1, 4, 50);
        due("drill()", x.drill(), 4);
        x.clock(116);
        due("drill()", x.drill(), 4);
        x.clock(117);
        due("drill()", x.drill(), -3);
        x.clock(120);
        due("drill()", x.drill(), -3);
        OneStair y = of("limper 0 from 2 to 0;");
        y.minutes(1);
        due("HALF is 0 then", y.drill(), 4);
        y.minutes(3);
        due("who has arrived goes, too", y.drill(), 1);
        due("nothing changes", y.personOf(0, 6), 3);
    }

    private static void p22Early() {
        promise = 22;
        OneStair x = of("clerk 0 from 0 to 4;hat 2 at 10 for 5;porter 9 from 0 to 3;clerk 0 from 7 to 7;");
        due("early(0, 3)", x.early(0, 3), 0);
        due("early(0, 2)", x.early(0, 2), -3);
        due("early(0, 9)", x.early(0, 9), 6);
        due("early(0, 11)", x.early(0, 11), 7);
        due("early(0, 15)", x.early(0, 15), 7);
        due("early(0, 16)", x.early(0, 16), 13);
        due("early(0, 119)", x.early(0, 119), 99);
        due("early(2, 0)", x.early(2, 0), 0);
        due("early(2, 60)", x.early(2, 60), 60);
        due("early(0, 120)", x.early(0, 120), -1);
        due("early(0, -1)", x.early(0, -1), -1);
        due("early(3, 5)", x.early(3, 5), -1);
        x.room(1);
        due("early(1, 119)", x.early(1, 119), -3);
        x.minutes(8);
        due("who has arrived goes again", x.early(2, 9), 9);
        due("by is gone", x.early(2, 7), -3);
        due("early(2, 8)", x.early(2, 8), 8);
        x.clock(100);
        due("early(2, 119)", x.early(2, 119), -3);
        OneStair y = of("limper 0 from 0 to 1;");
        y.minutes(1);
        due("HALF is 0 then", y.early(0, 5), 4);
    }

    private static void p23Swap() {
        promise = 23;
        OneStair x = new OneStair();
        due("swap()", x.swap(), -3);
        x.person(CLERK, 0, 0, 9);
        due("swap()", x.swap(), -3);
        x.person(CLERK, 0, 9, 0);
        due("swap()", x.swap(), 1);
        x.person(CLERK, 0, 5, 0);
        due("swap()", x.swap(), 1);
        x.person(CLERK, 0, 6, 6);
        due("swap()", x.swap(), 1);
        x.stand(1, 1);
        due("swap()", x.swap(), 2);
        x.minutes(1);
        due("who has arrived counts not", x.swap(), 2);
        due("nothing changes", x.personOf(0, 3), 9);
        OneStair y = of("porter 9 from 0 to 1;clerk 0 from 0 to 0;room 1;");
        due("swap()", y.swap(), 1);
        OneStair z = of("porter 9 from 0 to 1;clerk 0 from 0 to 1;room 1;");
        due("swap()", z.swap(), -3);
        OneStair v = of("clerk 0 from 0 to 0;clerk 0 from 0 to 9;clerk 0 from 5 to 4;");
        due("of several the least", of("clerk 0 from 0 to 9;".repeat(3)).swap(), 1);
        due("swap()", v.swap(), 12);
        v.minutes(1);
        due("none of the two has arrived", v.swap(), -3);
        v.sends(2, 8, 1);
        due("swap()", v.swap(), 12);
        OneStair u = of("clerk 0 from 0 to 2;clerk 0 from 0 to 3;clerk 0 from 0 to 4;clerk 0 from 7 to 7 at 50;");
        u.clock(50);
        u.stand(0, 2);
        u.minutes(1);
        u.sends(0, 5, 0);
        u.clock(0);
        due("who has arrived counts in LAST", u.last(), 50);
        due("of several the least", u.swap(), 1);
        OneStair w = of("limper 0 from 0 to 2;clerk 0 from 5 to 2;clerk 0 from 5 to 2;");
        w.minutes(1);
        due("HALF is 0 behind a swap of like goals, too", w.swap(), 12);
    }

    private static void p24Enough() {
        promise = 24;
        OneStair x = new OneStair();
        due("enough(0)", x.enough(0), 1);
        for (int i = 0; i < 8; i++) {
            x.person(PORTER, i < 4 ? 4 : 5, 0, 1);
        }
        due("enough(1)", x.enough(1), -3);
        due("enough(3)", x.enough(3), 6);
        due("enough(5)", x.enough(5), 4);
        due("enough(119)", x.enough(119), 2);
        due("enough(120)", x.enough(120), -1);
        due("enough(-1)", x.enough(-1), -1);
        due("nothing changes", x.room(9), 2);
        OneStair y = of("clerk 0 from 0 to 2;clerk 0 from 0 to 2;clerk 0 from 0 to 2;");
        due("enough(1)", y.enough(1), 3);
        due("enough(2)", y.enough(2), 2);
        due("enough(3)", y.enough(3), 1);
        y.clock(9);
        due("enough(8)", y.enough(8), -3);
        OneStair z = of("porter 9 from 0 to 1;".repeat(4) + "clerk 0 from 0 to 1;");
        due("enough(1)", z.enough(1), 9);
        OneStair w = of("clerk 0 from 5 to 5;clerk 0 from 6 to 6;");
        w.clock(50);
        w.minutes(1);
        w.sends(1, 6, 0);
        w.clock(10);
        due("who has arrived did so behind it", w.enough(49), -3);
        due("enough(50)", w.enough(50), 1);
    }

    private static void p25Worst() {
        promise = 25;
        OneStair x = of("clerk 0 from 2 to 5;clerk 0 from 9 to 8 at 20;");
        due("worst(1)", x.worst(1), 0);
        due("worst(18)", x.worst(18), 0);
        due("worst(19)", x.worst(19), 2);
        due("worst(30)", x.worst(30), 2);
        due("worst(0)", x.worst(0), -1);
        due("worst(31)", x.worst(31), -1);
        due("nothing changes", x.many(1), 0);
        OneStair y = of("clerk 0 from 5 to 2;clerk 0 from 8 to 7 at 99;");
        due("worst(5)", y.worst(5), 0);
        y.clock(99);
        due("worst(18)", y.worst(18), 4);
        due("never counts 999", y.worst(19), 4);
        due("of several the least", y.worst(20), 3);
        y.clock(100);
        due("worst(3)", y.worst(3), -4);
        for (int i = 0; i < 4; i++) {
            y.hat(0, 0, 1);
        }
        due("worst(3)", y.worst(3), -2);
        due("worst(0)", y.worst(0), -1);
        due("nobody", new OneStair().worst(30), 0);
    }

    private static void p26Rent() {
        promise = 26;
        OneStair x = of("clerk 0 from 0 to 9;limper 0 from 5 to 0 at 10;");
        due("rent(0)", x.rent(0), 0 + 9);
        due("rent(5)", x.rent(5), 4 + 0);
        due("rent(9)", x.rent(9), 8 + 7);
        due("rent(10)", x.rent(10), -1);
        due("rent(-1)", x.rent(-1), -1);
        x.clock(12);
        due("rent(5)", x.rent(5), 16 + 2);
        x.clock(118);
        due("rent(5)", x.rent(5), 200 + 108);
        due("nobody", new OneStair().rent(4), 0);
        OneStair y = of("limper 0 from 2 to 0;");
        y.minutes(1);
        due("HALF is 0 then", y.rent(0), 4);
        y.minutes(3);
        due("who has arrived goes, too", y.rent(0), 4);
    }

    private static void p27Cheapest() {
        promise = 27;
        due("nobody", new OneStair().cheapest(), 0);
        OneStair x = of("clerk 0 from 6 to 9;");
        due("cheapest() of several", x.cheapest(), 5);
        x.person(LIMPER, 0, 6, 0);
        due("cheapest()", x.cheapest(), 6);
        due("nothing changes", x.personOf(0, 3), 9);
        for (int floor = 0; floor < 10; floor++) {
            OneStair y = new OneStair();
            y.person(LIMPER, 0, floor, 5);
            due("cheapest() of a limper on " + floor, y.cheapest(), floor);
        }
    }

    private static void p28Seed() {
        promise = 28;
        OneStair x = new OneStair();
        due("seed(LOW)", x.seed(LOW), 1);
        due("seed(-7)", x.seed(-7), LOW);
        due("seed(0)", x.seed(0), -7);
    }

    private static void p29Lot() {
        promise = 29;
        OneStair x = of("clerk 0 from 0 to 0;clerk 0 from 0 to 5;");
        x.minutes(1);
        due("lot(2)", x.lot(2), -1);
        due("lot(-1)", x.lot(-1), -1);
        due("lot(0)", x.lot(0), 38);
        due("lot(1)", x.lot(1), 26);
        persons(x, 4, 38, 26);
        persons(x, 6, 0, -9);
        due("seed(-1)", x.seed(-1), (1103515245 + 12345) * 1103515245 + 12345);
        int z = -1 * 1103515245 + 12345;
        due("lot(0) of a z below 0", x.lot(0), (z >>> 16) % 100);
        due("seed(0)", x.seed(0), z);
    }

    private static void p30Prove() {
        promise = 30;
        OneStair x = of("clerk 0 from 0 to 2;clerk 0 from 9 to 9 at 1;");
        due("prove(0)", x.prove(0), -1);
        due("prove(21)", x.prove(21), -1);
        due("prove(20)", x.prove(20), 20);
        due("prove(21)", x.prove(21), -1);
        due("many(3)", x.many(3), 20);
        due("prove(1)", x.prove(1), 1);
        x.clock(117);
        due("prove(20)", x.prove(20), 3);
        due("row(2, 0)", x.row(2, 0), 119);
        x.clock(120);
        due("prove(20)", x.prove(20), 0);
        due("many(3)", x.many(3), 0);
        due("nothing else changes", x.personOf(0, 2), 0);
    }

    private static void p31Row() {
        promise = 31;
        OneStair x = of("clerk 0 from 0 to 2;clerk 0 from 9 to 9 at 1;limper 0 from 4 to 3;");
        due("row(0, 0)", x.row(0, 0), -9);
        x.minutes(1);
        x.prove(3);
        int[][] want = {{1, 7, 14}, {2, 7, 14}, {3, 7, 14}};
        for (int i = 0; i < 3; i++) {
            for (int what = 0; what < 3; what++) {
                due("row(" + i + ", " + what + ")", x.row(i, what), want[i][what]);
            }
        }
        OneStair y = of("clerk 0 from 0 to 2;clerk 0 from 9 to 9 at 2;");
        y.prove(3);
        due("row(0, 1)", y.row(0, 1), 0);
        due("row(0, 2)", y.row(0, 2), 10);
        due("row(1, 1)", y.row(1, 1), 1);
        due("row(2, 1)", y.row(2, 1), 3);
        due("row(3, 0)", x.row(3, 0), -9);
        due("row(-1, 0)", x.row(-1, 0), -9);
        due("row(0, 3)", x.row(0, 3), -9);
        due("row(0, -1)", x.row(0, -1), -9);
        due("row(HIGH, LOW)", x.row(HIGH, LOW), -9);
    }

    private static void p32AlterRow() {
        promise = 32;
        OneStair x = of("clerk 0 from 0 to 2;");
        due("alterRow(0, 0, 1)", x.alterRow(0, 0, 1), -9);
        x.prove(2);
        due("alterRow(1, 2, LOW)", x.alterRow(1, 2, LOW), 2);
        due("alterRow(1, 2, 5)", x.alterRow(1, 2, 5), LOW);
        due("row(1, 2)", x.row(1, 2), 5);
        due("row(1, 1)", x.row(1, 1), 1);
        due("row(0, 2)", x.row(0, 2), 1);
        due("alterRow(2, 0, 1)", x.alterRow(2, 0, 1), -9);
        due("alterRow(-1, 0, 1)", x.alterRow(-1, 0, 1), -9);
        due("alterRow(0, 3, 1)", x.alterRow(0, 3, 1), -9);
        due("alterRow(0, -1, 1)", x.alterRow(0, -1, 1), -9);
    }

    private static void p33Judge() {
        promise = 33;
        OneStair x = of("clerk 0 from 0 to 2;");
        due("judge()", x.judge(), 0);
        x.prove(5);
        due("judge()", x.judge(), 0);
        for (int what = 0; what < 3; what++) {
            int old = x.alterRow(3, what, 77);
            due("judge()", x.judge(), 4);
            x.alterRow(4, what, 77);
            due("the first one", x.judge(), 4);
            x.alterRow(3, what, old);
            due("judge()", x.judge(), 5);
            x.prove(5);
        }
        x.room(1);
        due("judge()", x.judge(), 0);
        x.hat(1, 0, 2);
        due("judge() of now", x.judge(), 2);
        x.sweep(0);
        x.clock(1);
        due("judge()", x.judge(), 1);
        x.clock(0);
        due("nothing changes", x.personOf(0, 2), 0);
        OneStair y = of("clerk 0 from 3 to 3;");
        y.clock(110);
        y.prove(8);
        y.clock(115);
        for (int i = 0; i < 8; i++) {
            y.alterRow(i, 0, 115 + i);
        }
        due("behind MINUTE 119", y.judge(), 6);
        y.clock(120);
        due("at the end", y.judge(), 1);
        OneStair z = of("clerk 0 from 0 to 3;clerk 0 from 0 to 3;room 1;");
        z.prove(5);
        z.mind(1, CHIEF, 9);
        due("another goes first now", z.judge(), 3);
    }

    private static void p34Starts() {
        promise = 34;
        OneStair x = of("clerk 0 from 0 to 2;clerk 0 from 0 to 2 at 9;clerk 0 from 0 to 2 at 9;");
        due("starts(0, 0, 0, 1)", x.starts(0, 0, 0, 1), -11);
        x.sheet(0, 1, 4);
        int[] items = {-1, 100, 99, 42};
        for (int i = 0; i < 4; i++) {
            x.put(0, i, items[i]);
        }
        due("starts(0, 0, 0, 3)", x.starts(0, 0, 0, 3), 3);
        persons(x, 4, 0, 99, 99);
        due("starts(0, 3, 1, 1)", x.starts(0, 3, 1, 1), 1);
        persons(x, 4, 0, 42, 99);
        due("starts(0, 4, 0, 0)", x.starts(0, 4, 0, 0), 0);
        due("starts(0, 5, 0, 0)", x.starts(0, 5, 0, 0), -12);
        due("starts(0, 3, 0, 2)", x.starts(0, 3, 0, 2), -12);
        due("starts(0, -1, 0, 1)", x.starts(0, -1, 0, 1), -12);
        due("starts(0, HIGH, 0, 3)", x.starts(0, HIGH, 0, 3), -12);
        due("starts(0, LOW, 0, 3)", x.starts(0, LOW, 0, 3), -12);
        int[][] bad = {{4, 0, 0, 1}, {-1, 0, 0, 1}, {0, 0, 3, 0}, {0, 0, -1, 1}, {0, 0, 0, -1}, {0, 0, 0, 9},
            {0, 0, 0, 4}, {0, 0, 2, 2}, {0, 0, HIGH, HIGH}, {1, 0, 0, 4}};
        for (int[] b : bad) {
            due("starts(" + b[0] + ", .., " + b[2] + ", " + b[3] + ")", x.starts(b[0], b[1], b[2], b[3]), -1);
        }
        for (int sort = 0; sort < 4; sort++) {
            x.sheet(2, sort, 2);
            due("starts of sort " + sort, x.starts(2, 9, 0, 1), sort == 1 ? -12 : -13);
        }
        x.sheet(0, -1, 0);
        due("starts(0, 0, 0, 1)", x.starts(0, 0, 0, 1), -11);
        due("nobody", new OneStair().starts(0, 0, 0, 0), -1);
    }

    private static void p35Sheet() {
        promise = 35;
        OneStair x = new OneStair();
        due("sheet(4, 0, 1)", x.sheet(4, 0, 1), -1);
        due("sheet(-1, 0, 1)", x.sheet(-1, 0, 1), -1);
        due("sheet(0, 4, 1)", x.sheet(0, 4, 1), -1);
        due("sheet(0, -2, 1)", x.sheet(0, -2, 1), -1);
        due("sheet(0, 0, 41)", x.sheet(0, 0, 41), -1);
        due("sheet(0, 0, HIGH)", x.sheet(0, 0, HIGH), -1);
        due("sheet(0, 0, -1)", x.sheet(0, 0, -1), -14);
        due("sheet(0, 0, LOW)", x.sheet(0, 0, LOW), -14);
        due("sheet(0, 4, -1)", x.sheet(0, 4, -1), -1);
        due("sheet(0, 3, 40)", x.sheet(0, 3, 40), 1);
        x.put(0, 39, 5);
        due("sheet(0, 3, 40)", x.sheet(0, 3, 40), 1);
        due("item(0, 3, 39)", x.item(0, 3, 39), 0);
        x.put(0, 0, 5);
        x.sheet(0, 3, 40);
        due("item(0, 3, 0)", x.item(0, 3, 0), 0);
        due("sheet(0, 3, 0)", x.sheet(0, 3, 0), 1);
        due("item(0, 3, 0)", x.item(0, 3, 0), -12);
        due("sheet(0, -1, HIGH)", x.sheet(0, -1, HIGH), 1);
        due("item(0, 3, 0)", x.item(0, 3, 0), -11);
        due("sheet(0, -1, LOW)", x.sheet(0, -1, LOW), 1);
    }

    private static void p36Put() {
        promise = 36;
        OneStair x = new OneStair();
        due("put(0, 0, 1)", x.put(0, 0, 1), -11);
        int[] big = {44, 300, 70000 + 230, -129, HIGH, LOW};
        for (int sort = 0; sort < 4; sort++) {
            x.sheet(sort, sort, 6);
            for (int i = 0; i < 6; i++) {
                due("put(" + sort + ", " + i + ", ..)", x.put(sort, i, big[i]), 1);
                int want = sort == 0 ? (byte) big[i] : sort == 1 ? (short) big[i] : big[i];
                due("item(" + sort + ", " + sort + ", " + i + ")", x.item(sort, sort, i), want);
            }
        }
        due("put(0, 6, 1)", x.put(0, 6, 1), -12);
        due("put(0, -1, 1)", x.put(0, -1, 1), -12);
        due("put(4, 0, 1)", x.put(4, 0, 1), -1);
        due("put(-1, 0, 1)", x.put(-1, 0, 1), -1);
    }

    private static void p37Item() {
        promise = 37;
        OneStair x = new OneStair();
        x.sheet(1, 2, 3);
        x.put(1, 2, -12);
        due("item(1, 2, 2)", x.item(1, 2, 2), -12);
        due("item(1, 2, 0)", x.item(1, 2, 0), 0);
        due("item(1, 2, 3)", x.item(1, 2, 3), -12);
        due("item(1, 2, -1)", x.item(1, 2, -1), -12);
        due("item(1, 1, 9)", x.item(1, 1, 9), -13);
        due("item(1, 3, 0)", x.item(1, 3, 0), -13);
        due("item(0, 3, 0)", x.item(0, 3, 0), -11);
        due("item(0, 4, 0)", x.item(0, 4, 0), -1);
        due("item(0, -1, 0)", x.item(0, -1, 0), -1);
        due("item(4, 0, 0)", x.item(4, 0, 0), -1);
        due("item(-1, 0, 0)", x.item(-1, 0, 0), -1);
    }

    private static void p38Shelf() {
        promise = 38;
        OneStair x = of("clerk 0 from 0 to 2;boy 0 from 0 to 2;");
        x.sheet(3, 1, 5);
        int[][] bad = {{4, 0, 0}, {-1, 0, 0}, {0, 3, 0}, {0, -1, 0}, {0, 0, 2}, {0, 0, -1}, {0, 1, 4}, {0, 1, -1}};
        for (int[] b : bad) {
            due("shelf(" + b[0] + ", " + b[1] + ", " + b[2] + ")", x.shelf(b[0], b[1], b[2]), -1);
        }
        due("shelf(0, 0, 1)", x.shelf(0, 0, 1), 1);
        due("taken(0, 5)", x.taken(0, 5), 1);
        due("shelf(0, 1, 3)", x.shelf(0, 1, 3), 1);
        due("taken(0, 11)", x.taken(0, 11), 5);
        x.sheet(3, 2, 7);
        due("the row stays on the shelf", x.taken(0, 11), 5);
        due("shelf(0, 1, 0), a missing one", x.shelf(0, 1, 0), 1);
        due("taken(0, 11)", x.taken(0, 11), -11);
        due("shelf(0, 0, 0)", x.shelf(0, 0, 0), 1);
        due("shelf(0, 2, HIGH)", x.shelf(0, 2, HIGH), 1);
        due("taken(0, 0)", x.taken(0, 0), -11);
    }

    private static void p39Taken() {
        promise = 39;
        OneStair x = of("clerk 0 from 0 to 0;limper 0 from 0 to 0;runner 0 from 0 to 0;chief 0 from 0 to 0;"
            + "porter 0 from 0 to 0;boy 0 from 0 to 0;");
        String[] under = {"0", "01", "02", "023", "014", "05"};
        for (int p = 0; p < 6; p++) {
            x.shelf(0, 0, p);
            for (int as = 0; as < 6; as++) {
                due("taken(0, " + as + ") of " + p, x.taken(0, as), under[p].indexOf('0' + as) >= 0 ? p : -13);
            }
            due("taken(0, 10)", x.taken(0, 10), -13);
        }
        int[] bad = {-1, 6, 9, 14, LOW, HIGH};
        for (int as : bad) {
            due("taken(0, " + as + ")", x.taken(0, as), -1);
        }
        due("taken(4, 0)", x.taken(4, 0), -1);
        due("taken(-1, 0)", x.taken(-1, 0), -1);
        due("taken(1, 13)", x.taken(1, 13), -11);
        for (int sort = 0; sort < 4; sort++) {
            x.sheet(0, sort, 10 + sort);
            x.shelf(1, 1, 0);
            for (int as = 10; as < 14; as++) {
                due("taken(1, " + as + ")", x.taken(1, as), as == 10 + sort ? as : -13);
            }
            due("taken(1, 0)", x.taken(1, 0), -13);
        }
        towerOf(x, "clerk 0 from 0 to 0;");
        due("there is no such one any more", x.taken(0, 0), -11);
        due("act(0, 0, 1)", x.act(0, 0, 1), 0);
    }

    private static void p40Act() {
        promise = 40;
        OneStair x = of("boy 1 from 0 to 0;".repeat(2));
        x.shelf(0, 0, 1);
        // n is 1; rows: kind, a, climbs(7), yields(7), shares(7), tells(7)
        int[][] want = {{CLERK, 4, 8, 16, 2, 20}, {LIMPER, 4, 8, 12, 2, 8}, {RUNNER, 4, 24, 48, 2, 52},
            {CHIEF, 4, -24, -54, 2, -50}, {PORTER, 4, 7, 10, 2, 14}, {BOY, 4, 8, 16, 7, 40}};
        for (int[] w : want) {
            x.mind(1, w[0], w[1]);
            for (int act = 0; act < 4; act++) {
                due("act(0, " + act + ", 7) of kind " + w[0], x.act(0, act, 7), w[2 + act]);
            }
        }
        // a less n is 1 and n is 1
        due("shares of a porter", act(x, PORTER, 2, 2), 9 ^ 1);
        due("tells of a runner", act(x, RUNNER, 2, 3), (48 ^ 2) + 1);
        due("tells of a runner", act(x, RUNNER, 0, 3), 48 - 1);
        due("shares of a boy", act(x, BOY, 2, 2), 7 + 3);
        x.mind(1, BOY, 3);
        due("tells of a boy", x.act(0, 3, 0), (2 ^ 3) * 2);
        x.mind(1, RUNNER, 2);
        due("tells of a runner", x.act(0, 3, 0), (6 ^ 2) + 1);
        x.mind(1, CLERK, 0);
        due("ints wrap", x.act(0, 0, HIGH), LOW);
        due("shares of the lowest by -1", x.act(0, 2, LOW), LOW);
        due("cut towards 0", x.act(0, 2, -7), 7);
        x.mind(1, CLERK, 4);
        due("cut towards 0", x.act(0, 2, -7), -2);
        x.mind(1, CLERK, 1);
        due("parted by 0", x.act(0, 2, 7), -15);
        x.mind(1, CHIEF, 1);
        due("parted by 0", x.act(0, 3, 7), -15);
        due("tells of a clerk parts not", act(x, CLERK, 1, 3), 17);
        x.act(0, 0, 7);
        due("act(4, 0, 7)", x.act(4, 0, 7), 0);
        due("no TRACE then", x.many(5), 0);
        x.act(0, 0, 7);
        due("act(0, 4, 7)", x.act(0, 4, 7), 0);
        due("no TRACE then", x.many(5), 0);
        x.act(0, 0, 7);
        due("act(0, -1, 7)", x.act(0, -1, 7), 0);
        due("no TRACE then", x.many(5), 0);
        x.act(0, 0, 7);
        due("act(1, 0, 7), nothing", x.act(1, 0, 7), 0);
        due("no TRACE then", x.many(5), 0);
        x.sheet(0, 0, 5);
        x.shelf(2, 1, 0);
        x.act(0, 0, 7);
        due("act(2, 0, 7), a row", x.act(2, 0, 7), 0);
        due("no TRACE then", x.many(5), 0);
    }

    private static int act(OneStair x, int kind, int a, int act) {
        x.mind(1, kind, a);
        return x.act(0, act, 7);
    }

    private static void p41Trace() {
        promise = 41;
        OneStair x = of("boy 1 from 0 to 0;".repeat(2));
        due("trace(0)", x.trace(0), -3);
        x.shelf(0, 0, 1);
        act(x, CLERK, 4, 3);
        trace(x, 13, 11, 10);
        act(x, LIMPER, 4, 3);
        trace(x, 13, 20, 11, 10);
        act(x, RUNNER, 4, 3);
        trace(x, 31, 13, 11, 30, 10, 12);
        act(x, CHIEF, 4, 3);
        trace(x, 31, 13, 41, 11, 40, 30, 10, 40, 30, 10, 12);
        act(x, PORTER, 4, 1);
        trace(x, 20, 11, 51, 10);
        act(x, PORTER, 4, 2);
        trace(x, 50, 12);
        act(x, BOY, 4, 3);
        trace(x, 60, 13, 11, 10);
        act(x, BOY, 4, 2);
        trace(x, 61, 12, 10);
        act(x, BOY, 1, 2);
        trace(x, 61, 12);
        act(x, RUNNER, 1, 3);
        trace(x, 31, 13, 11, 30, 10, 12);
        due("trace(-1)", x.trace(-1), -3);
        due("trace(30)", x.trace(30), -3);
        due("trace(HIGH)", x.trace(HIGH), -3);
    }

    private static void p42Many() {
        promise = 42;
        OneStair x = of("clerk 0 from 0 to 0;clerk 0 from 0 to 9;boy 0 from 1 to 1;hat 0 at 0 for 1;");
        x.minutes(1);
        x.prove(4);
        feedText(x, "clerk");
        x.shelf(0, 0, 0);
        x.act(0, 1, 1);
        int[] want = {3, 1, 2, 4, 5, 2};
        for (int what = 0; what < 6; what++) {
            due("many(" + what + ")", x.many(what), want[what]);
        }
        due("many(6)", x.many(6), -1);
        due("many(-1)", x.many(-1), -1);
    }

    private static void p43Keep() {
        promise = 43;
        OneStair x = of("limper 3 from 0 to 5 at 1;clerk 0 from 4 to 4;hat 7 at 3 for 2;room 3;");
        x.minutes(2);
        x.seed(99);
        due("keep()", x.keep(), 1);
        x.mind(0, RUNNER, 9);
        x.sends(0, 9, 50);
        x.stand(1, 8);
        x.sends(1, 2, 3);
        x.hat(8, 8, 8);
        x.sweep(0);
        x.room(9);
        x.seed(5);
        x.clock(77);
        x.person(BOY, 1, 1, 1);
        due("again()", x.again(), 2);
        int[] of = {LIMPER, 3, 0, 5, 1, 1, -9, 1, 7};
        for (int what = 0; what < 9; what++) {
            due("personOf(0, " + what + ")", x.personOf(0, what), of[what]);
        }
        persons(x, 6, -9, 0);
        persons(x, 2, 0, 4);
        due("many(0)", x.many(0), 2);
        due("many(1)", x.many(1), 1);
        due("closed(7, 3)", x.closed(7, 3), 1);
        due("closed(8, 8)", x.closed(8, 8), 0);
        due("room(1)", x.room(1), 3);
        due("seed(1)", x.seed(1), 99);
    }

    private static void p44Again() {
        promise = 44;
        OneStair x = of("clerk 0 from 0 to 5;");
        due("again()", x.again(), -3);
        x.keep();
        x.minutes(3);
        x.prove(2);
        feedText(x, "room");
        x.sheet(0, 0, 3);
        x.shelf(0, 0, 0);
        x.act(0, 0, 1);
        due("again()", x.again(), 0);
        due("THE TAPE stays", x.many(4), 4);
        due("ROWS stay", x.many(3), 2);
        due("THE TRACE stays", x.many(5), 1);
        due("SHEETS stay", x.item(0, 0, 2), 0);
        due("SHELVES stay", x.taken(0, 0), 0);
        x.minutes(9);
        due("what is kept stays", x.again(), 0);
        persons(x, 2, 0);
        x.minutes(4);
        x.keep();
        x.tower();
        towerOf(x, "clerk 1 from 1 to 1;".repeat(3));
        due("the latest", x.again(), 4);
        persons(x, 2, 4);
        due("many(0)", x.many(0), 1);
    }

    /** Eight people and three hats: the rows are full. */
    private static void p16To27OfAFullTower() {
        promise = 16;
        OneStair x = of("clerk 0 from 0 to 1;".repeat(8) + "hat 8 at 0 for 1;hat 8 at 0 for 1;hat 8 at 0 for 1;");
        int[] when = {0, 0, 1, 1, 2, 2, 3, 3};
        for (int p = 0; p < 8; p++) {
            due("when(" + p + ")", x.when(p), when[p]);
            due("waited(" + p + ")", x.waited(p), when[p]);
        }
        due("last()", x.last(), 3);
        due("crowd(0)", x.crowd(0), 2);
        due("there(1, 2)", x.there(1, 2), 6);
        due("there(0, 2)", x.there(0, 2), 2);
        due("drill()", x.drill(), 1);
        due("early(7, 9)", x.early(7, 9), 9);
        due("early(7, 3)", x.early(7, 3), 3);
        due("early(7, 2)", x.early(7, 2), -3);
        due("swap()", x.swap(), 1);
        due("enough(0)", x.enough(0), 8);
        due("worst(3)", x.worst(3), 0);
        due("rent(0)", x.rent(0), 0);
        due("rent(1)", x.rent(1), 12);
        due("cheapest()", x.cheapest(), 0);
        due("prove(2)", x.prove(2), 2);
        due("row(1, 1)", x.row(1, 1), 15);
        due("row(1, 2)", x.row(1, 2), 4);
        x.minutes(4);
        due("many(2)", x.many(2), 8);
        towerOf(x, "clerk 0 from 0 to 1;");
        due("there(1, 5) of one", x.there(1, 5), 1);
        due("there(0, 5) of one", x.there(0, 5), 0);
    }

    private static void p20ThereAtTheEnd() {
        promise = 20;
        OneStair x = of("limper 0 from 0 to 5;clerk 0 from 0 to 0 at 99;");
        x.clock(119);
        due("there(0, 119)", x.there(0, 119), 2);
        due("nothing changes", x.personOf(0, 5), 0);
        x.clock(120);
        due("there(0, 119)", x.there(0, 119), -1);
        due("there(0, 120)", x.there(0, 120), -1);
    }

    public static void main(String[] args) {
        p01NewObject();
        p02Feed();
        p03Tower();
        p04Room();
        p05Hat();
        p06Sweep();
        p07Closed();
        p08Person();
        p09PersonOf();
        p10Mind();
        p11Sends();
        p12Stand();
        p13Minute();
        p14Minutes();
        p15Clock();
        p16When();
        p17Last();
        p18Waited();
        p19Crowd();
        p20There();
        p20ThereAtTheEnd();
        p21Drill();
        p22Early();
        p23Swap();
        p24Enough();
        p25Worst();
        p26Rent();
        p27Cheapest();
        p16To27OfAFullTower();
        p28Seed();
        p29Lot();
        p30Prove();
        p31Row();
        p32AlterRow();
        p33Judge();
        p34Starts();
        p35Sheet();
        p36Put();
        p37Item();
        p38Shelf();
        p39Taken();
        p40Act();
        p41Trace();
        p42Many();
        p43Keep();
        p44Again();
        System.out.println(wrong == 0 ? "all promises are kept" : wrong + " answers are not as due");
        if (wrong != 0) {
            System.exit(1);
        }
    }
}
