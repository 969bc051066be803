/** The boundary sentences of promises 1 to 15, the tower and its minutes, and of the text that tells a tower. */
public final class TowerEdgesTest {
    private static final int BAD = Edges.BAD, FULL = Edges.FULL, NONE = Edges.NONE, LOW = Edges.LOW, HIGH = Edges.HIGH;
    private static final String BOYS = "boy 0 from 0 to 0;".repeat(8);
    private static final String HATS = "hat 1 at 1 for 1;".repeat(4);
    private static final long BLANKS = 0x2020202020202020L;
    private static final Edges edges = new Edges();

    private static void due(String call, int got, int want) {
        edges.due(call, got, want);
    }

    private static OneStair of(String text) {
        return Edges.of(text);
    }

    private static int tower(String text) {
        return Edges.tower(new OneStair(), text);
    }

    // ---- promises 1 and 2

    private static void p01() {
        edges.sentence(1, "Nobody, no HATS; nothing is kept.");
        OneStair x = new OneStair();
        for (int what = 0; what <= 5; what++) {
            due("many(" + what + ")", x.many(what), 0);
        }
        due("personOf(0, 0)", x.personOf(0, 0), BAD);
        due("sweep(0)", x.sweep(0), BAD);
        due("row(0, 0)", x.row(0, 0), -9);
        due("trace(0)", x.trace(0), NONE);
        due("tower()", x.tower(), 0);
        due("judge()", x.judge(), 0);
        edges.changesNothing(Edges.NEW, "again()", NONE, y -> y.again());
        for (int flight = 0; flight <= 8; flight++) {
            due("closed(" + flight + ", 0)", x.closed(flight, 0), 0);
        }
    }

    private static void p02() {
        edges.sentence(2, "n bytes (1 to 8) come to THE TAPE, the lowest of eight first: how many it has.");
        edges.range(Edges.SOME, "feed", 1, 8, BAD, (x, n) -> x.feed(BLANKS, n));
        edges.range(Edges.NEW, "feed", 1, 8, BAD, (x, n) -> x.feed(BLANKS, n));
        edges.changesOnly(Edges.SOME, "feed(.., 8)", 50, x -> x.feed(BLANKS, 8), "tape");
        for (int n = 1; n <= 8; n++) {
            OneStair x = new OneStair();
            due("feed(.., " + n + ")", x.feed(BLANKS, n), n);
            due("feed(.., 1)", x.feed(0x58, 1), n + 1);
            due("tower(): the byte behind " + n, x.tower(), -100 - n);
            OneStair y = new OneStair();
            y.feed(BLANKS & ~(0xffL << 8 * (n - 1)), 8);
            due("tower(): byte " + n + " of eight is no blank", y.tower(), -100 - (n - 1));
        }
        OneStair z = new OneStair();
        z.feed(0xff3b37206d6f6f72L, 7);
        due("tower() of \"room 7;\"", z.tower(), 0);
        due("room(1)", z.room(1), 7);
        due("feed(-1, 8)", z.feed(-1L, 8), 8);
        due("tower() of bytes 255", z.tower(), -100);
    }

    private static void p02Full() {
        edges.sentence(2, "BAD; FULL: more than 240.");
        for (int n = 1; n <= 8; n++) {
            int bytes = n;
            edges.changesNothing(Edges.BRIM, "feed(.., " + n + ")", FULL, x -> x.feed(BLANKS, bytes));
            OneStair x = new OneStair();
            Edges.feed(x, " ".repeat(241 - n));
            due("feed(.., " + n + "), one byte too many", x.feed(0, n), FULL);
            due("many(4)", x.many(4), 241 - n);
            due("tower(): none of them came", x.tower(), 0);
            Edges.feed(x, " ".repeat(240 - n));
            due("feed(.., " + n + ") up to 240", x.feed(BLANKS, n), 240);
            due("many(4)", x.many(4), 240);
        }
        int[] bad = {0, 9, -1, LOW, HIGH};
        for (int n : bad) {
            edges.changesNothing(Edges.BRIM, "feed(.., " + n + "), BAD ahead of FULL", BAD, x -> x.feed(BLANKS, n));
        }
        sentenceOfTheTape();
    }

    private static void sentenceOfTheTape() {
        edges.sentence(Edges.TERMS, "THE TAPE takes bytes, 240 at most; tower() uses it up.");
        OneStair x = Edges.BRIM.made();
        due("many(4)", x.many(4), 240);
        due("tower()", x.tower(), 1);
        due("many(4)", x.many(4), 0);
        due("feed(.., 8)", x.feed(BLANKS, 8), 8);
        due("tower() of blanks", x.tower(), 0);
        due("feed(\"x\", 1)", x.feed('x', 1), 1);
        due("tower() with a fault", x.tower(), -100);
        due("many(4)", x.many(4), 0);
        due("tower() of nothing", x.tower(), 0);
    }

    // ---- promise 3 and the text

    /** Only the tape may be another behind a fault, and it is used up. */
    private static void fault(String text, int place) {
        Edges.Scene scene = new Edges.Scene("a fault").with(x -> x.person(Edges.LIMPER, 5, 0, 9), x -> x.hat(1, 1, 1),
            x -> x.room(5), x -> x.minutes(3), x -> x.keep(), x -> x.prove(3), x -> x.seed(9), x -> x.sheet(0, 0, 3),
            x -> x.shelf(0, 0, 0), x -> x.act(0, 0, 3)).withTape(text);
        edges.changesOnly(scene, "tower() of \"" + text + "\"", -100 - place, x -> x.tower(), "tape");
        OneStair x = scene.made();
        x.tower();
        due("many(4) behind a fault", x.many(4), 0);
    }

    private static void p03() {
        edges.sentence(3, "THE TAPE becomes all: how many PEOPLE; -100 less its FAULT. There are no ROWS then.");
        OneStair x = Edges.BRIM.made();
        due("tower()", x.tower(), 1);
        due("many(0)", x.many(0), 1);
        due("many(1)", x.many(1), 1);
        due("many(3)", x.many(3), 0);
        due("row(0, 0)", x.row(0, 0), -9);
        due("personOf(0, 0)", x.personOf(0, 0), Edges.BOY);
        due("personOf(1, 0)", x.personOf(1, 0), BAD);
        for (int n = 0; n <= 8; n++) {
            due("tower() of " + n, tower(BOYS.substring(0, 18 * n)), n);
        }
        fault("x", 0);
        fault(" ".repeat(239) + "x", 239);
        fault(" ".repeat(236) + "room", 240);
        Edges.Scene told = Edges.BRIM.and("told", y -> y.tower());
        edges.changesOnly(Edges.BRIM, "tower()", 1, y -> y.tower(), "people", "hats", "room", "minute", "rows",
            "shelves", "tape");
        edges.changesOnly(told, "tower() of nothing", 0, y -> y.tower(), "people", "hats", "room", "shelves");
    }

    private static void allByItAlone() {
        edges.sentence(Edges.TERMS, "It is all by it alone (ROOM 2, no HATS, if not told; MINUTE 0); z stays.");
        OneStair x = Edges.SOME.made();
        x.tower();
        Edges.tower(x, "clerk 9 from 9 to 0;");
        due("many(1)", x.many(1), 0);
        due("minute()", x.minute(), 0);
        due("room(1)", x.room(1), 2);
        due("seed(0)", x.seed(0), -5);
        x.last();
        x.seed(HIGH);
        edges.people(x, 5, 0);
        edges.people(x, 6, -9);
        due("tower() of nothing", x.tower(), 0);
        due("seed(0)", x.seed(0), HIGH);
        due("room(1)", x.room(1), 2);
        due("the latest room counts", Edges.tower(x, "room 9;room 3;"), 0);
        due("room(1)", x.room(1), 3);
        edges.sentence(Edges.TERMS, "at: START (0 if not told).");
        x.clock(50);
        Edges.tower(x, "boy 0 from 0 to 0;boy 0 from 0 to 0 at 0;boy 0 from 0 to 0 at 99;boy 0 from 0 to 0;");
        edges.people(x, 4, 0, 0, 99, 0);
    }

    /** A number at the place of # is of a range; where it is told is what many of the faults are about. */
    private static void numberInText(String text, int least, int most, Edges.Call told) {
        int place = text.indexOf('#');
        for (int v = least; v <= most; v++) {
            OneStair x = of(text.replace("#", "" + v));
            due("told in " + text, told.on(x), v);
            OneStair y = of(text.replace("#", String.format("%02d", v)));
            due("told with two digits in " + text, told.on(y), v);
        }
        if (least > 0) {
            fault(text.replace("#", "" + (least - 1)), place);
            fault(text.replace("#", "00"), place);
        }
        String[] wrong = {"" + (most + 1), "100", "000", String.format("%03d", least), "99999999999", "4294967297",
            "2147483648", "-1", "x", ";", "from", "" + (char) 200};
        for (String w : wrong) {
            fault(text.replace("#", w), place);
        }
        fault(text.replace("#", "  " + (most + 1)), place + 2);
    }

    private static void numbersInText() {
        edges.sentence(Edges.TERMS, "KIND (clerk | limper | runner | chief | porter | boy): A, FLOOR, GOAL;");
        numberInText("clerk # from 2 to 3;", 0, 9, x -> x.personOf(0, 1));
        numberInText("clerk 1 from # to 3;", 0, 9, x -> x.personOf(0, 2));
        numberInText("clerk 1 from 2 to #;", 0, 9, x -> x.personOf(0, 3));
        numberInText("clerk 1 from 2 to 3 at #;", 0, 99, x -> x.personOf(0, 4));
        edges.sentence(Edges.TERMS, "hat: a FLIGHT, a MINUTE (0 to 99), for how many. room: 1 to 9.");
        numberInText("hat # at 1 for 1;", 0, 8, TowerEdgesTest::closedFlight);
        numberInText("hat 1 at # for 1;", 0, 99, TowerEdgesTest::closedFrom);
        numberInText("hat 1 at 5 for #;", 1, 30, TowerEdgesTest::closedFor);
        numberInText("room #;", 1, 9, x -> x.room(1));
    }

    private static int closedFlight(OneStair x) {
        int flight = 0;
        while (flight < 9 && x.closed(flight, 1) == 0) {
            flight++;
        }
        return flight;
    }

    private static int closedFrom(OneStair x) {
        int minute = 0;
        while (minute < 120 && x.closed(1, minute) == 0) {
            minute++;
        }
        return minute;
    }

    private static int closedFor(OneStair x) {
        int minutes = 0;
        for (int m = 0; m < 120; m++) {
            minutes += x.closed(1, m);
        }
        return minutes;
    }

    private static void namesAndBlanks() {
        edges.sentence(Edges.TERMS, "NAMES are rows of letters a to z, NUMBERS rows of digits (1 or 2), both as long "
            + "as they go; blanks (32) part them, and stand elsewhere as one likes.");
        String[] names = {"clerk", "limper", "runner", "chief", "porter", "boy"};
        for (int kind = 0; kind < 6; kind++) {
            String rest = " 1 from 2 to 3;";
            due("KIND told", of(names[kind] + rest).personOf(0, 0), new int[] {0, 1, 2, 3, 4, 5}[kind]);
            brokenNames(names[kind], rest);
        }
        brokenNames("hat", " 1 at 1 for 1;");
        brokenNames("room", " 1;");
        due("blanks everywhere", tower("   clerk   1   from   2   to   3   at   4   ;   hat  1 at 1 for 1  ;  "), 1);
        due("blanks nowhere but needed", tower("clerk 1from 2to 3at 4;hat 1at 1for 1;room 1;"), 1);
        due("240 blanks", tower(" ".repeat(240)), 0);
        fault("cl erk 1 from 2 to 3;", 0);
        fault("clerk 1 fr om 2 to 3;", 8);
        fault("clerk 1 from 2 to 3 at 1 2;", 25);
        fault("clerkfrom 1 2 to 3;", 0);
        for (int b = 0; b <= 255; b++) {
            everyByte(b);
        }
    }

    private static void brokenNames(String name, String rest) {
        fault(name + "a" + rest, 0);
        fault(name + "z" + rest, 0);
        fault("a" + name + rest, 0);
        fault(name.substring(1) + rest, 0);
        fault(name.substring(0, name.length() - 1) + rest, 0);
        fault(name.substring(0, 1).toUpperCase() + name.substring(1) + rest, 0);
        fault(name.substring(0, name.length() - 1) + "~" + rest, 0);
        for (int i = 0; i < name.length(); i++) {
            fault(name.substring(0, i) + "x" + name.substring(i + 1) + rest, 0);
        }
        fault(name + "{" + rest, name.length());
        fault(name + "`" + rest, name.length());
    }

    /** A byte can't stand in any of these places, unless it is a blank, or what goes on there. */
    private static void everyByte(int b) {
        String sign = "" + (char) b;
        boolean digit = b >= '0' && b <= '9';
        boolean letter = b >= 'a' && b <= 'z';
        OneStair x = new OneStair();
        due("tower() of byte " + b, Edges.tower(x, sign), b == ' ' ? 0 : -100);
        due("byte " + b + " in a NAME", tower("room" + sign + " 5;"),
            b == ' ' ? 0 : letter ? -100 : digit && b != '0' ? -106 : -104);
        due("byte " + b + " behind a NUMBER", tower("room 5" + sign + ";"), b == ' ' ? 0 : digit ? -105
            : b == ';' ? -107 : -106);
        due("byte " + b + " behind all", tower("room 5;" + sign), b == ' ' ? 0 : -107);
    }

    private static void faults() {
        edges.sentence(Edges.TERMS, "FAULT: the place (from 0) of the first byte of the first NAME, NUMBER or other "
            + "byte that can't stand there or is not as told");
        String[] words = {"clerk", "1", "from", "2", "to", "3", "at", "4", ";"};
        String[] hat = {"hat", "1", "at", "2", "for", "3", ";"};
        String[] room = {"room", "1", ";"};
        eachWordWrong(words);
        eachWordWrong(hat);
        eachWordWrong(room);
        fault("clerk 1 from 2 to 3 at 4 at 5;", 25);
        fault("clerk 1 from 2 to 3;;", 20);
        fault("room 5;;", 7);
        fault("clerk x from y to z;", 6);
        fault("clerk 10 from 10 to 10;", 6);
        fault("room 5; room 0; x", 13);
        fault("clerk 1 from 2 to 3 for 4;", 20);
        fault("hat 1 from 2 for 3;", 6);
        fault("hat 1 at 2 to 3;", 11);
    }

    /** In place of each word stands each other thing that can't stand there. */
    private static void eachWordWrong(String[] words) {
        String[] others = {"boy", "from", "77", ";", "?", "777"};
        for (int i = 0; i < words.length; i++) {
            String ahead = "";
            String behind = "";
            for (int k = 0; k < words.length; k++) {
                ahead += k < i ? words[k] + " " : "";
                behind += k > i ? " " + words[k] : "";
            }
            for (String other : others) {
                if (canStand(words, i, other)) {
                    continue;
                }
                fault(ahead + other + behind, ahead.length());
            }
        }
    }

    private static boolean canStand(String[] words, int i, String other) {
        boolean firstName = i == 0 && other.equals("boy");
        boolean semicolonForAt = words[i].equals("at") && words[0].equals("clerk") && other.equals(";");
        boolean start = i == 7 && other.equals("77");
        boolean from = words[0].equals("hat") && i == 3 && other.equals("77");
        return words[i].equals(other) || firstName || semicolonForAt || start || from;
    }

    private static void tooMany() {
        edges.sentence(Edges.TERMS, "(a NUMBER out of range, of more digits; the first NAME of a ninth PERSON, a "
            + "fifth HAT)");
        String[] names = {"clerk", "limper", "runner", "chief", "porter", "boy"};
        due("tower() of eight", tower(BOYS), 8);
        for (String name : names) {
            fault(BOYS + name + " 1 from 2 to 3;", 144);
            fault(BOYS + "  " + name, 146);
        }
        fault(BOYS + "boy x", 144);
        due("a HAT behind eight PEOPLE", tower(BOYS + "hat 1 at 1 for 1;room 1;"), 8);
        due("tower() of four HATS", tower(HATS), 0);
        fault(HATS + "hat 1 at 1 for 1;", 68);
        fault(HATS + " hat", 69);
        fault(HATS + "room 5;hat x", 75);
        due("a PERSON behind four HATS", tower(HATS + "clerk 1 from 1 to 1;"), 1);
        due("eight PEOPLE and four HATS", tower(BOYS + HATS), 8);
        fault(BOYS + HATS + "hat", 212);
        fault(BOYS + HATS + "boy", 212);
    }

    private static void endOfText() {
        edges.sentence(Edges.TERMS, "or the end (how many bytes there are), if more must come.");
        String[] words = {"clerk", " ", "1", " ", "from", " ", "2", " ", "to", " ", "3", " ", "at", " ", "45", ";",
            "hat", " ", "1", " ", "at", " ", "23", " ", "for", " ", "30", ";", "room", " ", "9", ";"};
        String text = String.join("", words);
        int begin = 0;
        for (String word : words) {
            boolean name = Character.isLetter(word.charAt(0));
            for (int cut = 1; cut < word.length(); cut++) {
                fault(text.substring(0, begin + cut), name ? begin : begin + cut);
            }
            begin += word.length();
            if (!word.equals(";")) {
                fault(text.substring(0, begin), begin);
                fault(text.substring(0, begin) + "   ", begin + 3);
            }
        }
        due("tower() of all", tower(text), 1);
        due("tower() of nothing", tower(""), 0);
        fault(" ".repeat(234) + "room 5", 240);
        due("a text of 240 bytes", tower(" ".repeat(233) + "room 5;"), 0);
    }

    // ---- promises 4 to 7

    private static void p04() {
        edges.sentence(4, "ROOM becomes v: what it was. BAD.");
        edges.range(Edges.SOME, "room", 1, 9, BAD, (x, v) -> x.room(v));
        edges.range(Edges.BRIM, "room", 1, 9, BAD, (x, v) -> x.room(v));
        edges.changesOnly(Edges.SOME, "room(9)", 4, x -> x.room(9), "room");
        OneStair x = new OneStair();
        int was = 2;
        for (int v = 1; v <= 9; v++) {
            due("room(" + v + ")", x.room(v), was);
            was = v;
        }
        due("room(0)", x.room(0), BAD);
        due("room(10)", x.room(10), BAD);
        due("room(1)", x.room(1), 9);
    }

    private static void p05() {
        edges.sentence(5, "A HAT (from 0 to 99): how many there are. BAD; FULL.");
        edges.range(Edges.SOME, "FLIGHT of hat", 0, 8, BAD, (x, v) -> x.hat(v, 0, 1));
        edges.range(Edges.SOME, "MINUTE of hat", 0, 99, BAD, (x, v) -> x.hat(0, v, 1));
        edges.range(Edges.SOME, "MINUTES of hat", 1, 30, BAD, (x, v) -> x.hat(0, 0, v));
        edges.range(Edges.LATE, "MINUTE of hat", 0, 99, BAD, (x, v) -> x.hat(0, v, 1));
        edges.changesOnly(Edges.SOME, "hat(8, 99, 30), the fourth", 4, x -> x.hat(8, 99, 30), "hats");
        int[][] bad = {{-1, 0, 1}, {9, 0, 1}, {0, -1, 1}, {0, 100, 1}, {0, 0, 0}, {0, 0, 31}, {LOW, LOW, LOW}};
        for (int[] b : bad) {
            edges.changesNothing(Edges.BRIM, "BAD ahead of FULL", BAD, x -> x.hat(b[0], b[1], b[2]));
        }
        edges.changesNothing(Edges.BRIM, "hat(0, 0, 1), the fifth", FULL, x -> x.hat(0, 0, 1));
        OneStair x = new OneStair();
        for (int i = 1; i <= 4; i++) {
            due("hat(2, 3, 4), one like the others", x.hat(2, 3, 4), i);
        }
        due("hat(2, 3, 4), the fifth", x.hat(2, 3, 4), FULL);
        x.sweep(0);
        due("hat(2, 3, 4), the fourth again", x.hat(2, 3, 4), 4);
    }

    private static void p06() {
        edges.sentence(6, "The i-th HAT (0 the first) goes: how many are left. BAD.");
        edges.changesNothing(Edges.NEW, "sweep(0) of none", BAD, x -> x.sweep(0));
        edges.range(Edges.SOME, "sweep of three", 0, 2, BAD, (x, v) -> x.sweep(v));
        edges.range(Edges.BRIM, "sweep of four", 0, 3, BAD, (x, v) -> x.sweep(v));
        edges.changesOnly(Edges.BRIM, "sweep(3)", 3, x -> x.sweep(3), "hats");
        for (int swept = 0; swept < 4; swept++) {
            OneStair x = new OneStair();
            for (int f = 0; f < 4; f++) {
                x.hat(2 * f, 10 * f, 5 + f);
            }
            due("sweep(" + swept + ")", x.sweep(swept), 3);
            for (int f = 0; f < 4; f++) {
                int stays = f == swept ? 0 : 1;
                due("its first minute", x.closed(2 * f, 10 * f), stays);
                due("its last minute", x.closed(2 * f, 10 * f + 4 + f), stays);
                due("behind it", x.closed(2 * f, 10 * f + 5 + f), 0);
            }
            due("sweep(3)", x.sweep(3), BAD);
            due("sweep(0), the first of those left", x.sweep(0), 2);
            due("it is closed no more", x.closed(swept == 0 ? 2 : 0, swept == 0 ? 10 : 0), 0);
            due("sweep(1)", x.sweep(1), 1);
            due("sweep(0)", x.sweep(0), 0);
            due("sweep(0)", x.sweep(0), BAD);
        }
    }

    private static void p07() {
        edges.sentence(7, "Whether a FLIGHT is closed in a MINUTE (0 to 119): 1, 0. BAD.");
        edges.range(Edges.SOME, "FLIGHT of closed", 0, 8, BAD, (x, v) -> x.closed(v, 0));
        edges.range(Edges.SOME, "MINUTE of closed", 0, 119, BAD, (x, v) -> x.closed(0, v));
        edges.range(Edges.LATE, "MINUTE of closed", 0, 119, BAD, (x, v) -> x.closed(0, v));
        edges.changesNothing(Edges.SOME, "closed(6, 38)", 1, x -> x.closed(6, 38));
        edges.changesNothing(Edges.SOME, "closed(6, 39)", 0, x -> x.closed(6, 39));
        int[] from = {0, 1, 50, 98, 99};
        int[] lengths = {1, 2, 29, 30};
        for (int f : from) {
            for (int n : lengths) {
                OneStair x = new OneStair();
                x.hat(8, f, n);
                for (int m = 0; m <= 119; m++) {
                    due("closed(8, " + m + ")", x.closed(8, m), m >= f && m < f + n ? 1 : 0);
                    due("closed(7, " + m + ")", x.closed(7, m), 0);
                }
            }
        }
        OneStair two = new OneStair();
        two.hat(0, 5, 3);
        two.hat(0, 7, 3);
        int[] closed = {0, 1, 1, 1, 1, 1, 0};
        for (int m = 4; m <= 10; m++) {
            due("closed(0, " + m + ") by two", two.closed(0, m), closed[m - 4]);
        }
        due("sweep(0)", two.sweep(0), 1);
        due("closed(0, 6)", two.closed(0, 6), 0);
        due("closed(0, 7) by the other", two.closed(0, 7), 1);
    }

    // ---- promises 8 to 12

    private static void p08() {
        edges.sentence(8, "A PERSON, with START MINUTE (99 at most): the number. BAD; FULL.");
        edges.range(Edges.SOME, "KIND of person", 0, 5, BAD, (x, v) -> x.person(v, 0, 0, 0));
        edges.range(Edges.SOME, "A of person", 0, 9, BAD, (x, v) -> x.person(0, v, 0, 0));
        edges.range(Edges.SOME, "FLOOR of person", 0, 9, BAD, (x, v) -> x.person(0, 0, v, 0));
        edges.range(Edges.SOME, "GOAL of person", 0, 9, BAD, (x, v) -> x.person(0, 0, 0, v));
        edges.changesOnly(Edges.SOME, "person(5, 9, 9, 9)", 4, x -> x.person(5, 9, 9, 9), "people");
        edges.changesNothing(Edges.BRIM, "a ninth", FULL, x -> x.person(0, 0, 0, 0));
        int[][] bad = {{-1, 0, 0, 0}, {6, 0, 0, 0}, {0, -1, 0, 0}, {0, 10, 0, 0}, {0, 0, -1, 0}, {0, 0, 10, 0},
            {0, 0, 0, -1}, {0, 0, 0, 10}};
        for (int[] b : bad) {
            edges.changesNothing(Edges.BRIM, "BAD ahead of FULL", BAD, x -> x.person(b[0], b[1], b[2], b[3]));
        }
        int[][] starts = {{0, 0}, {1, 1}, {98, 98}, {99, 99}, {100, 99}, {119, 99}, {120, 99}};
        for (int[] s : starts) {
            OneStair x = new OneStair();
            x.clock(s[0]);
            due("person(4, 9, 8, 7)", x.person(4, 9, 8, 7), 0);
            int[] want = {4, 9, 8, 7, s[1], 0, -9, 2, 6};
            for (int what = 0; what <= 8; what++) {
                due("personOf(0, " + what + ") at " + s[0], x.personOf(0, what), want[what]);
            }
        }
        OneStair nine = new OneStair();
        for (int p = 0; p < 8; p++) {
            due("person " + p, nine.person(0, 0, 0, 0), p);
        }
        due("person 8", nine.person(0, 0, 0, 0), FULL);
    }

    private static void p09() {
        edges.sentence(9, "what = 0 KIND, 1 A, 2 FLOOR, 3 GOAL, 4 START, 5 HALF, 6 the MINUTE ARRIVED in (-9: not "
            + "yet), 7 TAKES, 8 RANK. BAD.");
        edges.range(Edges.SOME, "PERSON of personOf", 0, 3, BAD, (x, v) -> x.personOf(v, 0));
        edges.range(Edges.BRIM, "PERSON of personOf", 0, 7, BAD, (x, v) -> x.personOf(v, 8));
        edges.range(Edges.SOME, "what of personOf", 0, 8, BAD, (x, v) -> x.personOf(1, v));
        edges.changesNothing(Edges.NEW, "personOf(0, 0) of nobody", BAD, x -> x.personOf(0, 0));
        edges.changesNothing(Edges.NEW, "personOf(0, 9) of nobody", BAD, x -> x.personOf(0, 9));
        int[][] want = {{0, 3, 2, 2, 0, 0, 1, 1, 5}, {1, 1, 6, 9, 0, 1, -9, 1, 7}, {2, 2, 9, 0, 4, 0, -9, 1, 4},
            {5, 1, 4, 8, 3, 0, -9, 0, 6}};
        for (int p = 0; p < 4; p++) {
            for (int w = 0; w <= 8; w++) {
                int person = p;
                int what = w;
                edges.changesNothing(Edges.SOME, "personOf(" + p + ", " + w + ")", want[p][w],
                    x -> x.personOf(person, what));
            }
        }
        OneStair x = of("clerk 0 from 0 to 0;");
        x.minutes(1);
        edges.people(x, 6, 0);
        OneStair y = of("clerk 0 from 0 to 0;");
        y.clock(119);
        y.minutes(1);
        edges.people(y, 6, 119);
    }

    private static void p10() {
        edges.sentence(10, "A PERSON becomes one of another KIND, with another A (HALF 0 then): the KIND that it was. "
            + "BAD.");
        edges.range(Edges.SOME, "PERSON of mind", 0, 3, BAD, (x, v) -> x.mind(v, 0, 0));
        edges.range(Edges.BRIM, "PERSON of mind", 0, 7, BAD, (x, v) -> x.mind(v, 0, 0));
        edges.range(Edges.SOME, "KIND of mind", 0, 5, BAD, (x, v) -> x.mind(1, v, 0));
        edges.range(Edges.SOME, "A of mind", 0, 9, BAD, (x, v) -> x.mind(1, 0, v));
        edges.changesNothing(Edges.NEW, "mind(0, 0, 0) of nobody", BAD, x -> x.mind(0, 0, 0));
        edges.changesOnly(Edges.SOME, "mind(1, 4, 9)", 1, x -> x.mind(1, 4, 9), "people", "shelves");
        OneStair x = Edges.SOME.made();
        due("mind(1, 1, 1), a like KIND", x.mind(1, 1, 1), 1);
        edges.people(x, 5, 0, 0, 0, 0);
        edges.people(x, 2, 2, 6, 9, 4);
        int was = 1;
        for (int kind = 5; kind >= 0; kind--) {
            due("mind(1, " + kind + ", 9)", x.mind(1, kind, 9), was);
            was = kind;
        }
        due("mind(0, 5, 2) of one who has ARRIVED", x.mind(0, 5, 2), 0);
        edges.people(x, 6, 1, -9, -9, -9);
    }

    private static void p11() {
        edges.sentence(11, "One has another GOAL and START, has not ARRIVED then: the GOAL that it was. BAD.");
        edges.range(Edges.SOME, "PERSON of sends", 0, 3, BAD, (x, v) -> x.sends(v, 0, 0));
        edges.range(Edges.BRIM, "PERSON of sends", 0, 7, BAD, (x, v) -> x.sends(v, 0, 0));
        edges.range(Edges.SOME, "GOAL of sends", 0, 9, BAD, (x, v) -> x.sends(1, v, 0));
        edges.range(Edges.SOME, "START of sends", 0, 99, BAD, (x, v) -> x.sends(1, 0, v));
        edges.range(Edges.LATE, "START of sends", 0, 99, BAD, (x, v) -> x.sends(1, 0, v));
        edges.changesNothing(Edges.NEW, "sends(0, 0, 0) of nobody", BAD, x -> x.sends(0, 0, 0));
        edges.changesOnly(Edges.SOME, "sends(0, 9, 99)", 2, x -> x.sends(0, 9, 99), "people");
        OneStair x = Edges.SOME.made();
        due("sends(0, 2, 0), on it by now", x.sends(0, 2, 0), 2);
        edges.people(x, 6, -9, -9, -9, -9);
        due("many(2)", x.many(2), 0);
        x.minutes(1);
        due("it ARRIVES anew", x.personOf(0, 6), 3);
        due("sends(1, 9, 99)", x.sends(1, 9, 99), 9);
        edges.people(x, 4, 0, 99, 4, 3);
        edges.people(x, 5, 0, 0, 0, 0);
    }

    private static void p12() {
        edges.sentence(12, "One is on another FLOOR (HALF 0): where it was. BAD.");
        edges.range(Edges.SOME, "PERSON of stand", 0, 3, BAD, (x, v) -> x.stand(v, 0));
        edges.range(Edges.BRIM, "PERSON of stand", 0, 7, BAD, (x, v) -> x.stand(v, 0));
        edges.range(Edges.SOME, "FLOOR of stand", 0, 9, BAD, (x, v) -> x.stand(1, v));
        edges.changesNothing(Edges.NEW, "stand(0, 0) of nobody", BAD, x -> x.stand(0, 0));
        edges.changesOnly(Edges.SOME, "stand(1, 0)", 6, x -> x.stand(1, 0), "people");
        OneStair x = Edges.SOME.made();
        due("stand(1, 6), a like FLOOR", x.stand(1, 6), 6);
        edges.people(x, 5, 0, 0, 0, 0);
        due("stand(1, 9), on GOAL", x.stand(1, 9), 6);
        edges.people(x, 6, 1, -9, -9, -9);
        x.minutes(1);
        edges.people(x, 6, 1, 3, -9, -9);
        due("stand(1, 0) of one who has ARRIVED", x.stand(1, 0), 9);
        edges.people(x, 6, 1, 3, -9, -9);
    }

    // ---- promises 13 to 15

    private static void p13() {
        edges.sentence(13, "MINUTE.");
        edges.changesNothing(Edges.NEW, "minute()", 0, x -> x.minute());
        edges.changesNothing(Edges.SOME, "minute()", 3, x -> x.minute());
        edges.changesNothing(Edges.LATE, "minute()", 120, x -> x.minute());
    }

    private static void p14() {
        edges.sentence(14, "n MINUTES (0 to 60) go, as far as there are such: MINUTE then. BAD.");
        edges.range(Edges.SOME, "minutes", 0, 60, BAD, (x, v) -> x.minutes(v));
        edges.range(Edges.LATE, "minutes", 0, 60, BAD, (x, v) -> x.minutes(v));
        edges.changesNothing(Edges.SOME, "minutes(0)", 3, x -> x.minutes(0));
        edges.changesNothing(Edges.LATE, "minutes(60)", 120, x -> x.minutes(60));
        edges.changesOnly(Edges.SOME, "minutes(60)", 63, x -> x.minutes(60), "people", "minute");
        int[][] want = {{59, 60, 119}, {60, 60, 120}, {61, 60, 120}, {60, 59, 119}, {119, 1, 120}, {119, 2, 120},
            {119, 60, 120}, {120, 1, 120}, {0, 60, 60}};
        for (int[] w : want) {
            OneStair x = new OneStair();
            x.clock(w[0]);
            due("minutes(" + w[1] + ") from " + w[0] + " on", x.minutes(w[1]), w[2]);
            due("minute()", x.minute(), w[2]);
        }
        OneStair x = of("limper 0 from 0 to 9 at 99;");
        x.clock(118);
        x.minutes(60);
        edges.people(x, 2, 1);
        edges.people(x, 5, 0);
        OneStair one = of("clerk 0 from 0 to 9;");
        OneStair nine = of("clerk 0 from 0 to 9;");
        for (int i = 0; i < 9; i++) {
            one.minutes(1);
        }
        nine.minutes(9);
        edges.people(one, 6, 8);
        edges.people(nine, 6, 8);
    }

    private static void p15() {
        edges.sentence(15, "MINUTE becomes v (0 to 120): what it was. BAD.");
        edges.range(Edges.SOME, "clock", 0, 120, BAD, (x, v) -> x.clock(v));
        edges.range(Edges.LATE, "clock", 0, 120, BAD, (x, v) -> x.clock(v));
        edges.changesOnly(Edges.SOME, "clock(120)", 3, x -> x.clock(120), "minute");
        edges.changesOnly(Edges.SOME, "clock(0)", 3, x -> x.clock(0), "minute");
        edges.changesNothing(Edges.SOME, "clock(3)", 3, x -> x.clock(3));
        OneStair x = new OneStair();
        due("clock(120)", x.clock(120), 0);
        due("clock(119)", x.clock(119), 120);
        due("clock(0)", x.clock(0), 119);
        due("minute()", x.minute(), 0);
    }

    public static void main(String[] args) {
        p01();
        p02();
        p02Full();
        p03();
        allByItAlone();
        numbersInText();
        namesAndBlanks();
        faults();
        tooMany();
        endOfText();
        p04();
        p05();
        p06();
        p07();
        p08();
        p09();
        p10();
        p11();
        p12();
        p13();
        p14();
        p15();
        edges.allOf(1, 15);
        edges.end();
    }
}
