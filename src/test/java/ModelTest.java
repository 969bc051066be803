import java.nio.charset.StandardCharsets;
import java.util.ArrayList;
import java.util.Arrays;
import java.util.Comparator;
import java.util.List;
import java.util.Random;

/**
 * Long random runs of calls, each answer held against a second, slow model of the document: things of kinds are
 * objects with super calls, a parting by 0 is an exception, a text is cut into tokens first, and every question is
 * answered by trying all that can be tried.
 */
public final class ModelTest {
    private static final int RUNS = 800;
    private static final int CALLS = 512;

    public static void main(String[] args) {
        int wrong = 0;
        for (int run = 0; run < RUNS && wrong < 5; run++) {
            wrong += oneRun(run) ? 0 : 1;
        }
        System.out.println(wrong == 0 ? "all runs are as the model's" : wrong + " runs are not as the model's");
        if (wrong != 0) {
            System.exit(1);
        }
    }

    private static boolean oneRun(int seed) {
        Random random = new Random(seed);
        Calls calls = new Calls(random);
        OneStair real = new OneStair();
        Model model = new Model();
        List<String> log = new ArrayList<>();
        for (int i = 0; i < CALLS; i++) {
            long[] call = calls.next(model);
            String name = Calls.NAMES[(int) call[0]] + Arrays.toString(Arrays.copyOfRange(call, 1, call.length));
            int want = model.answer(call);
            String got;
            try {
                got = "" + realAnswer(real, call);
            } catch (RuntimeException e) {
                got = "" + e;
            }
            log.add(name + " = " + want);
            if (!got.equals("" + want)) {
                System.out.println("run " + seed + ", call " + i + ": " + name + " answered " + got + ", due is " + want);
                log.subList(Math.max(0, log.size() - 25), log.size()).forEach(row -> System.out.println("    " + row));
                return false;
            }
        }
        return true;
    }

    private static int realAnswer(OneStair x, long[] c) {
        int p = c.length > 1 ? (int) c[1] : 0;
        int q = c.length > 2 ? (int) c[2] : 0;
        int r = c.length > 3 ? (int) c[3] : 0;
        int s = c.length > 4 ? (int) c[4] : 0;
        switch (Calls.NAMES[(int) c[0]]) {
            case "feed": return x.feed(c[1], q);
            case "tower": return x.tower();
            case "room": return x.room(p);
            case "hat": return x.hat(p, q, r);
            case "sweep": return x.sweep(p);
            case "closed": return x.closed(p, q);
            case "person": return x.person(p, q, r, s);
            case "personOf": return x.personOf(p, q);
            case "mind": return x.mind(p, q, r);
            case "sends": return x.sends(p, q, r);
            case "stand": return x.stand(p, q);
            case "minute": return x.minute();
            case "minutes": return x.minutes(p);
            case "clock": return x.clock(p);
            case "when": return x.when(p);
            case "last": return x.last();
            case "waited": return x.waited(p);
            case "crowd": return x.crowd(p);
            case "there": return x.there(p, q);
            case "drill": return x.drill();
            case "early": return x.early(p, q);
            case "swap": return x.swap();
            case "enough": return x.enough(p);
            case "worst": return x.worst(p);
            case "rent": return x.rent(p);
            case "cheapest": return x.cheapest();
            case "seed": return x.seed(p);
            case "lot": return x.lot(p);
            case "prove": return x.prove(p);
            case "row": return x.row(p, q);
            case "alterRow": return x.alterRow(p, q, r);
            case "judge": return x.judge();
            case "starts": return x.starts(p, q, r, s);
            case "sheet": return x.sheet(p, q, r);
            case "put": return x.put(p, q, r);
            case "item": return x.item(p, q, r);
            case "shelf": return x.shelf(p, q, r);
            case "taken": return x.taken(p, q);
            case "act": return x.act(p, q, r);
            case "trace": return x.trace(p);
            case "many": return x.many(p);
            case "keep": return x.keep();
            case "again": return x.again();
            default: throw new IllegalStateException("no such call");
        }
    }

    /** Chooses calls: mostly such as can be answered, some at the edges, a few wild ones. */
    private static final class Calls {
        static final String[] NAMES = {"feed", "tower", "room", "hat", "sweep", "closed", "person", "personOf", "mind",
            "sends", "stand", "minute", "minutes", "clock", "when", "last", "waited", "crowd", "there", "drill",
            "early", "swap", "enough", "worst", "rent", "cheapest", "seed", "lot", "prove", "row", "alterRow", "judge",
            "starts", "sheet", "put", "item", "shelf", "taken", "act", "trace", "many", "keep", "again"};
        private static final int[] WILD = {Integer.MIN_VALUE, Integer.MAX_VALUE, -1, 1 << 16, -128, 40, 41, 120, 200};
        private final Random random;
        private final List<long[]> waiting = new ArrayList<>();

        Calls(Random random) {
            this.random = random;
        }

        private long[] call(String name, long... args) {
            long[] c = new long[args.length + 1];
            c[0] = Arrays.asList(NAMES).indexOf(name);
            System.arraycopy(args, 0, c, 1, args.length);
            return c;
        }

        private int near(int least, int most) {
            int k = random.nextInt(60);
            if (k == 0) {
                return WILD[random.nextInt(WILD.length)];
            }
            if (k < 3) {
                return k == 1 ? least - 1 : most + 1;
            }
            return least + random.nextInt(most - least + 1);
        }

        private int early(int most) {
            return random.nextInt(3) == 0 ? near(0, most) : near(0, Math.min(most, 12));
        }

        private int wild() {
            return random.nextBoolean() ? random.nextInt() : random.nextInt(200) - 100;
        }

        long[] next(Model m) {
            if (!waiting.isEmpty()) {
                return waiting.remove(0);
            }
            if (random.nextInt(60) == 0) {
                tellText();
                return waiting.remove(0);
            }
            String name = NAMES[random.nextInt(NAMES.length)];
            int people = Math.max(0, m.now.people.size() - 1);
            switch (name) {
                case "feed": return call(name, random.nextLong(), near(1, 8));
                case "tower": return random.nextInt(4) > 0 ? call("minute") : call(name);
                case "room": return call(name, near(1, random.nextBoolean() ? 2 : 9));
                case "hat": return call(name, near(0, 8), early(99), near(1, 30));
                case "sweep": return call(name, near(0, 3));
                case "closed": return call(name, near(0, 8), early(119));
                case "person": return call(name, near(0, 5), near(0, 9), near(0, 9), near(0, 9));
                case "personOf": return call(name, near(0, people), near(0, 8));
                case "mind": return call(name, near(0, people), near(0, 5), near(0, 9));
                case "sends": return call(name, near(0, people), near(0, 9), early(99));
                case "stand": return call(name, near(0, people), near(0, 9));
                case "minutes": return call(name, random.nextInt(8) == 0 ? near(0, 60) : near(0, 4));
                case "clock": return random.nextInt(3) > 0 ? call("minute") : call(name, early(120));
                case "when": case "waited": case "lot": return call(name, near(0, people));
                case "crowd": return call(name, near(0, 8));
                case "there": return call(name, near(0, 9), near(m.now.minute, Math.max(m.now.minute, 119)));
                case "early": return call(name, near(0, people), random.nextBoolean() ? near(0, 119) : near(0, 40));
                case "enough": return call(name, random.nextBoolean() ? near(0, 119) : near(0, 40));
                case "worst": return call(name, near(1, 30));
                case "rent": return call(name, near(0, 9));
                case "seed": return call(name, random.nextInt());
                case "prove": return call(name, near(1, 20));
                case "row": return call(name, near(0, 19), near(0, 2));
                case "alterRow": return call(name, near(0, 19), near(0, 2), wild());
                case "starts": return call(name, near(0, 3), near(0, 6), near(0, people), near(0, 4));
                case "sheet": return call(name, near(0, 3), near(-1, 3), near(0, 40));
                case "put": return call(name, near(0, 3), near(0, 20), wild());
                case "item": return call(name, near(0, 3), near(0, 3), near(0, 20));
                case "shelf": return call(name, near(0, 3), near(0, 2), near(0, 3));
                case "taken": return call(name, near(0, 3), random.nextBoolean() ? near(0, 5) : near(10, 13));
                case "act": return call(name, near(0, 3), near(0, 3), wild());
                case "trace": return call(name, near(0, 11));
                case "many": return call(name, near(0, 5));
                default: return call(name);
            }
        }

        private String number(int most) {
            int k = random.nextInt(40);
            int v = k == 0 ? most + 1 + random.nextInt(3) : random.nextInt(most + 1);
            return (k == 1 ? "0" : "") + v;
        }

        private String blanks(boolean needed) {
            int k = random.nextInt(12);
            return k == 0 ? "  " : k == 1 || !needed ? "" : " ";
        }

        private String words(String... words) {
            StringBuilder b = new StringBuilder();
            for (String w : words) {
                b.append(b.length() == 0 || w.equals(";") ? blanks(false) : blanks(true)).append(w);
            }
            return b.toString();
        }

        private void tellText() {
            String[] kinds = {"clerk", "limper", "runner", "chief", "porter", "boy"};
            StringBuilder b = new StringBuilder();
            int entries = random.nextInt(12);
            for (int i = 0; i < entries; i++) {
                int k = random.nextInt(10);
                String kind = kinds[random.nextInt(6)];
                if (k == 0) {
                    b.append(words("room", number(9), ";"));
                } else if (k < 4) {
                    b.append(words("hat", number(8), "at", number(99), "for", number(30), ";"));
                } else if (k < 7) {
                    b.append(words(kind, number(9), "from", number(9), "to", number(9), ";"));
                } else {
                    b.append(words(kind, number(9), "from", number(9), "to", number(9), "at", number(20), ";"));
                }
            }
            if (random.nextInt(6) == 0 && b.length() > 0) {
                b.setCharAt(random.nextInt(b.length()), "; z9\u00e9A\n:"
                    .charAt(random.nextInt(8)));
            }
            if (random.nextInt(8) == 0) {
                b.setLength(random.nextInt(b.length() + 1));
            }
            b.append(" ".repeat(random.nextInt(3)));
            byte[] bytes = b.toString().getBytes(StandardCharsets.ISO_8859_1);
            if (random.nextInt(4) > 0) {
                waiting.add(call("tower"));
            }
            for (int i = 0; i < bytes.length; ) {
                int n = Math.min(bytes.length - i, 1 + random.nextInt(8));
                long eight = random.nextLong();
                for (int j = 0; j < n; j++) {
                    eight = eight & ~(255L << 8 * j) | (bytes[i + j] & 255L) << 8 * j;
                }
                waiting.add(call("feed", eight, n));
                i += n;
            }
            waiting.add(call("tower"));
        }
    }

    /** A parting by 0, thrown by the body that would do it. */
    private static final class Parted extends RuntimeException {
        private static final long serialVersionUID = 1;
    }

    private static class Clerk {
        final int n;
        final int a;
        final List<Integer> ran;

        Clerk(int n, int a, List<Integer> ran) {
            this.n = n;
            this.a = a;
            this.ran = ran;
        }

        int climbs(int x) {
            ran.add(10);
            return x + n;
        }

        int yields(int x) {
            ran.add(11);
            return climbs(x) * 2;
        }

        int shares(int x) {
            ran.add(12);
            if (a == n) {
                throw new Parted();
            }
            return x / (a - n);
        }

        int tells(int x) {
            ran.add(13);
            return yields(x) ^ a;
        }

        int takes() {
            return 1;
        }

        int rank() {
            return 5;
        }

        /** Halves of flights in a minute. */
        int halves(int minute) {
            return 2;
        }
    }

    private static class Limper extends Clerk {
        Limper(int n, int a, List<Integer> ran) {
            super(n, a, ran);
        }

        @Override int yields(int x) {
            ran.add(20);
            return super.yields(x) - a;
        }

        @Override int rank() {
            return super.rank() + 2;
        }

        @Override int halves(int minute) {
            return 1;
        }
    }

    private static class Runner extends Clerk {
        Runner(int n, int a, List<Integer> ran) {
            super(n, a, ran);
        }

        @Override int climbs(int x) {
            ran.add(30);
            return super.climbs(x) * 3;
        }

        @Override int tells(int x) {
            ran.add(31);
            return super.tells(x) + shares(n);
        }

        @Override int rank() {
            return super.rank() - 1;
        }

        @Override int halves(int minute) {
            return a < minute ? 4 : 2;
        }
    }

    private static final class Chief extends Runner {
        Chief(int n, int a, List<Integer> ran) {
            super(n, a, ran);
        }

        @Override int climbs(int x) {
            ran.add(40);
            return 0 - super.climbs(x);
        }

        @Override int yields(int x) {
            ran.add(41);
            return super.yields(x) + climbs(n);
        }

        @Override int rank() {
            return 0;
        }
    }

    private static final class Porter extends Limper {
        Porter(int n, int a, List<Integer> ran) {
            super(n, a, ran);
        }

        @Override int shares(int x) {
            ran.add(50);
            return super.shares(x + 2) ^ 1;
        }

        @Override int climbs(int x) {
            ran.add(51);
            return super.climbs(x) - n;
        }

        @Override int takes() {
            return super.takes() + (a >= 5 ? 1 : 0);
        }

        @Override int rank() {
            return super.rank() - 1;
        }
    }

    private static final class Boy extends Clerk {
        Boy(int n, int a, List<Integer> ran) {
            super(n, a, ran);
        }

        @Override int tells(int x) {
            ran.add(60);
            return super.tells(x) * 2;
        }

        @Override int shares(int x) {
            ran.add(61);
            return super.shares(x) + climbs(a);
        }

        @Override int takes() {
            return 0;
        }

        @Override int rank() {
            return super.rank() + a;
        }

        @Override int halves(int minute) {
            return (minute + a) % 4 == 0 ? 0 : 2;
        }
    }

    private static Clerk thing(int kind, int n, int a, List<Integer> ran) {
        switch (kind) {
            case 0: return new Clerk(n, a, ran);
            case 1: return new Limper(n, a, ran);
            case 2: return new Runner(n, a, ran);
            case 3: return new Chief(n, a, ran);
            case 4: return new Porter(n, a, ran);
            default: return new Boy(n, a, ran);
        }
    }

    private static Class<?> kindClass(int kind) {
        return new Class<?>[] {Clerk.class, Limper.class, Runner.class, Chief.class, Porter.class, Boy.class}[kind];
    }

    private static final class Person implements Cloneable {
        int number;
        int kind;
        int a;
        int floor;
        int goal;
        int start;
        int half;
        Integer arrived;
        int waited;

        Clerk asThing(List<Integer> ran) {
            return thing(kind, number, a, ran);
        }

        void send(int newGoal, int newStart) {
            goal = newGoal;
            start = newStart;
            half = 0;
            arrived = null;
        }

        @Override public Person clone() {
            try {
                return (Person) super.clone();
            } catch (CloneNotSupportedException e) {
                throw new IllegalStateException(e);
            }
        }
    }

    private record Hat(int flight, int from, int n) { }

    private static final class Tower {
        final List<Person> people = new ArrayList<>();
        final List<Hat> hats = new ArrayList<>();
        int room = 2;
        int minute = 0;
        final int[] crowd = new int[9];

        Tower copy() {
            Tower t = new Tower();
            for (Person p : people) {
                Person q = p.clone();
                q.waited = 0;
                t.people.add(q);
            }
            t.hats.addAll(hats);
            t.room = room;
            t.minute = minute;
            return t;
        }

        boolean closed(int flight, int at) {
            return hats.stream().anyMatch(h -> h.flight == flight && at >= h.from && at <= h.from + h.n - 1);
        }

        void pass() {
            int[][] lanes = new int[2][9];
            List<Person> line = new ArrayList<>(people);
            line.removeIf(p -> p.arrived != null || p.start > minute);
            line.sort(Comparator.comparingInt(p -> p.asThing(new ArrayList<>()).rank() * 100 + p.number));
            for (Person p : line) {
                if (p.floor == p.goal && p.half == 0) {
                    p.arrived = minute;
                    continue;
                }
                Clerk thing = p.asThing(new ArrayList<>());
                int halves = thing.halves(minute);
                boolean went = false;
                while (halves > 0 && p.floor != p.goal) {
                    int way = p.goal > p.floor ? 1 : -1;
                    int flight = Math.min(p.floor, p.floor + way);
                    int[] lane = lanes[way > 0 ? 0 : 1];
                    if (closed(flight, minute) || lane[flight] + thing.takes() > room) {
                        break;
                    }
                    lane[flight] += thing.takes();
                    crowd[flight] = Math.max(crowd[flight], lane[flight]);
                    int position = 2 * p.floor + way * p.half + way * Math.min(halves, 2);
                    halves -= 2;
                    p.half = position % 2 == 0 ? 0 : 1;
                    p.floor = position % 2 == 0 ? position / 2 : (position - way) / 2;
                    went = true;
                }
                if (!went) {
                    p.waited++;
                }
                if (p.floor == p.goal && p.half == 0) {
                    p.arrived = minute;
                }
            }
            minute++;
        }

        Tower atEnd() {
            Tower t = copy();
            while (t.minute < 120) {
                t.pass();
            }
            return t;
        }

        Integer last() {
            Integer most = null;
            for (Person p : atEnd().people) {
                if (p.arrived == null) {
                    return null;
                }
                most = most == null ? p.arrived : Integer.valueOf(Math.max(most, p.arrived));
            }
            return most;
        }

        int arrivedSet() {
            return people.stream().filter(p -> p.arrived != null).mapToInt(p -> 1 << p.number).sum();
        }

        int[] row() {
            int at = minute;
            pass();
            return new int[] {at, arrivedSet(), people.stream().mapToInt(p -> p.floor).sum()};
        }
    }

    private static final class Fault extends RuntimeException {
        private static final long serialVersionUID = 1;
        final int place;

        Fault(int place) {
            this.place = place;
        }
    }

    private record Token(String text, int place) { }

    /** Reads a text of tokens. */
    private static final class Reader {
        private static final List<String> KINDS = List.of("clerk", "limper", "runner", "chief", "porter", "boy");
        private final List<Token> tokens = new ArrayList<>();
        private int at = 0;

        Reader(String text) {
            java.util.regex.Matcher m = java.util.regex.Pattern.compile("[a-z]+|[0-9]+|[^ ]", 32).matcher(text);
            while (m.find()) {
                tokens.add(new Token(m.group(), m.start()));
            }
            tokens.add(new Token("", text.length()));
        }

        Token take(boolean right) {
            if (!right) {
                throw new Fault(tokens.get(at).place);
            }
            return tokens.get(at++);
        }

        boolean isNext(String text) {
            return tokens.get(at).text.equals(text);
        }

        int number(int least, int most) {
            String t = tokens.get(at).text;
            return Integer.parseInt(take(t.matches("[0-9]{1,2}") && Integer.parseInt(t) >= least
                && Integer.parseInt(t) <= most).text);
        }

        Tower read() {
            Tower t = new Tower();
            while (!isNext("")) {
                int kind = KINDS.indexOf(tokens.get(at).text);
                if (isNext("room")) {
                    take(true);
                    t.room = number(1, 9);
                } else if (isNext("hat")) {
                    take(t.hats.size() < 4);
                    int flight = number(0, 8);
                    take(isNext("at"));
                    int from = number(0, 99);
                    take(isNext("for"));
                    t.hats.add(new Hat(flight, from, number(1, 30)));
                } else {
                    take(kind >= 0 && t.people.size() < 8);
                    Person p = new Person();
                    p.number = t.people.size();
                    p.kind = kind;
                    p.a = number(0, 9);
                    take(isNext("from"));
                    p.floor = number(0, 9);
                    take(isNext("to"));
                    p.goal = number(0, 9);
                    if (isNext("at")) {
                        take(true);
                        p.start = number(0, 99);
                    }
                    t.people.add(p);
                }
                take(isNext(";"));
            }
            return t;
        }
    }

    private static final class Model {
        Tower now = new Tower();
        int z = 1;
        private Tower kept;
        private int keptZ;
        private final StringBuilder tape = new StringBuilder();
        private List<int[]> rows = new ArrayList<>();
        private final Object[] sheets = new Object[4];
        private final Object[] shelves = new Object[4];
        private List<Integer> ran = new ArrayList<>();

        private static boolean in(int v, int least, int most) {
            return v >= least && v <= most;
        }

        int answer(long[] c) {
            int p = c.length > 1 ? (int) c[1] : 0;
            int q = c.length > 2 ? (int) c[2] : 0;
            int r = c.length > 3 ? (int) c[3] : 0;
            int s = c.length > 4 ? (int) c[4] : 0;
            String name = Calls.NAMES[(int) c[0]];
            switch (name) {
                case "feed": return feed(c[1], q);
                case "tower": case "minute": case "last": case "drill": case "swap": case "cheapest": case "judge":
                case "keep": case "again": return plain(name);
                case "personOf": case "mind": case "sends": case "stand": case "when": case "waited": case "lot":
                case "early": return ofPerson(name, p, q, r);
                case "room": case "hat": case "sweep": case "closed": case "person": case "minutes": case "clock":
                case "seed": return ofTower(name, p, q, r, s);
                case "crowd": case "there": case "enough": case "worst": case "rent": return asked(name, p, q);
                case "prove": case "row": case "alterRow": case "many": case "trace": return ofRows(name, p, q, r);
                default: return ofHost(name, p, q, r, s);
            }
        }

        private int feed(long eight, int n) {
            if (!in(n, 1, 8)) {
                return -1;
            }
            if (tape.length() + n > 240) {
                return -2;
            }
            for (int i = 0; i < n; i++) {
                tape.append((char) (eight & 255));
                eight >>= 8;
            }
            return tape.length();
        }

        private int plain(String name) {
            switch (name) {
                case "tower":
                    try {
                        now = new Reader(tape.toString()).read();
                        rows = new ArrayList<>();
                        return now.people.size();
                    } catch (Fault f) {
                        return -100 - f.place;
                    } finally {
                        tape.setLength(0);
                    }
                case "minute": return now.minute;
                case "last": return now.last() == null ? -3 : now.last();
                case "drill": {
                    Tower t = now.copy();
                    t.people.forEach(p -> p.send(0, now.minute));
                    Integer last = t.last();
                    return last == null ? -3 : last + 1 - now.minute;
                }
                case "swap": return swap();
                case "cheapest": {
                    int best = 0;
                    for (int f = 1; f < 10; f++) {
                        best = rent(f) < rent(best) ? f : best;
                    }
                    return best;
                }
                case "judge": {
                    Tower t = now.copy();
                    for (int i = 0; i < rows.size(); i++) {
                        if (t.minute > 119 || !Arrays.equals(t.row(), rows.get(i))) {
                            return i + 1;
                        }
                    }
                    return 0;
                }
                case "keep":
                    kept = now.copy();
                    keptZ = z;
                    return 1;
                default:
                    if (kept == null) {
                        return -3;
                    }
                    now = kept.copy();
                    z = keptZ;
                    return now.minute;
            }
        }

        private int swap() {
            int best = -3;
            int least = 1000;
            for (Person one : now.people) {
                for (Person other : now.people) {
                    if (one.number >= other.number || one.arrived != null || other.arrived != null) {
                        continue;
                    }
                    Tower t = now.copy();
                    t.people.get(one.number).send(other.goal, one.start);
                    t.people.get(other.number).send(one.goal, other.start);
                    Integer last = t.last();
                    if (last != null && last < least) {
                        least = last;
                        best = one.number * 10 + other.number;
                    }
                }
            }
            return best;
        }

        private int rent(int floor) {
            Tower t = now.copy();
            t.people.forEach(p -> p.send(floor, p.start));
            return t.atEnd().people.stream().mapToInt(p -> p.arrived == null ? 200 : p.arrived - p.start).sum();
        }

        private int ofPerson(String name, int number, int q, int r) {
            if (!in(number, 0, now.people.size() - 1)) {
                return -1;
            }
            Person p = now.people.get(number);
            switch (name) {
                case "personOf": {
                    Clerk thing = p.asThing(new ArrayList<>());
                    int[] all = {p.kind, p.a, p.floor, p.goal, p.start, p.half, p.arrived == null ? -9 : p.arrived,
                        thing.takes(), thing.rank()};
                    return in(q, 0, 8) ? all[q] : -1;
                }
                case "mind": {
                    if (!in(q, 0, 5) || !in(r, 0, 9)) {
                        return -1;
                    }
                    int old = p.kind;
                    p.kind = q;
                    p.a = r;
                    p.half = 0;
                    return old;
                }
                case "sends": {
                    if (!in(q, 0, 9) || !in(r, 0, 99)) {
                        return -1;
                    }
                    int old = p.goal;
                    p.send(q, r);
                    return old;
                }
                case "stand": {
                    if (!in(q, 0, 9)) {
                        return -1;
                    }
                    int old = p.floor;
                    p.floor = q;
                    p.half = 0;
                    return old;
                }
                case "when": {
                    Integer when = now.atEnd().people.get(number).arrived;
                    return when == null ? -3 : when;
                }
                case "waited": return now.atEnd().people.get(number).waited;
                case "lot":
                    z = z * 1103515245 + 12345;
                    p.start = (z >>> 16) % 100;
                    return p.start;
                default: return early(number, q);
            }
        }

        private int early(int number, int by) {
            if (!in(by, 0, 119)) {
                return -1;
            }
            for (int start = 99; start >= now.minute; start--) {
                Tower t = now.copy();
                Person p = t.people.get(number);
                p.send(p.goal, start);
                Integer when = t.atEnd().people.get(number).arrived;
                if (when != null && when <= by) {
                    return start;
                }
            }
            return -3;
        }

        private int ofTower(String name, int p, int q, int r, int s) {
            int old;
            switch (name) {
                case "room":
                    old = now.room;
                    if (in(p, 1, 9)) {
                        now.room = p;
                    }
                    return in(p, 1, 9) ? old : -1;
                case "hat":
                    if (!in(p, 0, 8) || !in(q, 0, 99) || !in(r, 1, 30)) {
                        return -1;
                    }
                    if (now.hats.size() == 4) {
                        return -2;
                    }
                    now.hats.add(new Hat(p, q, r));
                    return now.hats.size();
                case "sweep":
                    if (!in(p, 0, now.hats.size() - 1)) {
                        return -1;
                    }
                    now.hats.remove(p);
                    return now.hats.size();
                case "closed": return !in(p, 0, 8) || !in(q, 0, 119) ? -1 : now.closed(p, q) ? 1 : 0;
                case "person": {
                    if (!in(p, 0, 5) || !in(q, 0, 9) || !in(r, 0, 9) || !in(s, 0, 9)) {
                        return -1;
                    }
                    if (now.people.size() == 8) {
                        return -2;
                    }
                    Person one = new Person();
                    one.number = now.people.size();
                    one.kind = p;
                    one.a = q;
                    one.floor = r;
                    one.send(s, Math.min(99, now.minute));
                    now.people.add(one);
                    return one.number;
                }
                case "minutes":
                    if (!in(p, 0, 60)) {
                        return -1;
                    }
                    for (int i = 0; i < p && now.minute < 120; i++) {
                        now.pass();
                    }
                    return now.minute;
                case "clock":
                    old = now.minute;
                    now.minute = in(p, 0, 120) ? p : old;
                    return in(p, 0, 120) ? old : -1;
                default:
                    old = z;
                    z = p;
                    return old;
            }
        }

        private int asked(String name, int p, int q) {
            switch (name) {
                case "crowd": return in(p, 0, 8) ? now.atEnd().crowd[p] : -1;
                case "there": {
                    if (!in(p, 0, 9) || !in(q, now.minute, 119)) {
                        return -1;
                    }
                    Tower t = now.copy();
                    while (t.minute <= q) {
                        t.pass();
                    }
                    return (int) t.people.stream().filter(one -> one.floor == p).count();
                }
                case "enough": {
                    if (!in(p, 0, 119)) {
                        return -1;
                    }
                    for (int room = 1; room < 10; room++) {
                        Tower t = now.copy();
                        t.room = room;
                        if (t.atEnd().people.stream().allMatch(one -> one.arrived != null && one.arrived <= p)) {
                            return room;
                        }
                    }
                    return -3;
                }
                case "worst": {
                    if (!in(p, 1, 30)) {
                        return -1;
                    }
                    if (now.hats.size() == 4) {
                        return -2;
                    }
                    if (now.minute > 99) {
                        return -4;
                    }
                    int[] lasts = new int[9];
                    int best = 0;
                    for (int f = 0; f < 9; f++) {
                        Tower t = now.copy();
                        t.hats.add(new Hat(f, now.minute, p));
                        lasts[f] = t.last() == null ? 999 : t.last();
                        best = lasts[f] > lasts[best] ? f : best;
                    }
                    return best;
                }
                default: return in(p, 0, 9) ? rent(p) : -1;
            }
        }

        private int ofRows(String name, int p, int q, int r) {
            boolean there = in(p, 0, rows.size() - 1) && in(q, 0, 2);
            switch (name) {
                case "prove": {
                    if (!in(p, 1, 20)) {
                        return -1;
                    }
                    rows = new ArrayList<>();
                    Tower t = now.copy();
                    while (rows.size() < p && t.minute < 120) {
                        rows.add(t.row());
                    }
                    return rows.size();
                }
                case "row": return there ? rows.get(p)[q] : -9;
                case "alterRow": {
                    int old = there ? rows.get(p)[q] : -9;
                    if (there) {
                        rows.get(p)[q] = r;
                    }
                    return old;
                }
                case "many": {
                    int[] all = {now.people.size(), now.hats.size(), Integer.bitCount(now.arrivedSet()), rows.size(),
                        tape.length(), Math.min(30, ran.size())};
                    return in(p, 0, 5) ? all[p] : -1;
                }
                default: return in(p, 0, Math.min(30, ran.size()) - 1) ? ran.get(p) : -3;
            }
        }

        private static Object newRow(int sort, int n) {
            Class<?>[] sorts = {byte.class, short.class, int.class, long.class};
            return java.lang.reflect.Array.newInstance(sorts[sort], n);
        }

        private static int sortOf(Object row) {
            return row instanceof byte[] ? 0 : row instanceof short[] ? 1 : row instanceof int[] ? 2 : 3;
        }

        private static int length(Object row) {
            return java.lang.reflect.Array.getLength(row);
        }

        private Object held(int shelf) {
            Object o = shelves[shelf];
            return o instanceof Integer n ? (n < now.people.size() ? now.people.get(n) : null) : o;
        }

        private int ofHost(String name, int p, int q, int r, int s) {
            switch (name) {
                case "starts": return starts(p, q, r, s);
                case "sheet":
                    if (!in(p, 0, 3) || !in(q, -1, 3) || q >= 0 && r > 40) {
                        return -1;
                    }
                    if (q >= 0 && r < 0) {
                        return -14;
                    }
                    sheets[p] = q < 0 ? null : newRow(q, r);
                    return 1;
                case "put":
                    if (!in(p, 0, 3)) {
                        return -1;
                    }
                    if (sheets[p] == null) {
                        return -11;
                    }
                    if (!in(q, 0, length(sheets[p]) - 1)) {
                        return -12;
                    }
                    putInto(sheets[p], q, r);
                    return 1;
                case "item":
                    if (!in(p, 0, 3) || !in(q, 0, 3)) {
                        return -1;
                    }
                    if (sheets[p] == null) {
                        return -11;
                    }
                    if (sortOf(sheets[p]) != q) {
                        return -13;
                    }
                    if (!in(r, 0, length(sheets[p]) - 1)) {
                        return -12;
                    }
                    return (int) java.lang.reflect.Array.getLong(sheets[p], r);
                case "shelf":
                    if (!in(p, 0, 3) || !in(q, 0, 2) || q == 0 && !in(r, 0, now.people.size() - 1)
                        || q == 1 && !in(r, 0, 3)) {
                        return -1;
                    }
                    shelves[p] = q == 0 ? Integer.valueOf(r) : q == 1 ? sheets[r] : null;
                    return 1;
                case "taken": return taken(p, q);
                default: return act(p, q, r);
            }
        }

        private static void putInto(Object row, int i, int v) {
            if (row instanceof byte[] b) {
                b[i] = (byte) v;
            } else if (row instanceof short[] h) {
                h[i] = (short) v;
            } else if (row instanceof int[] n) {
                n[i] = v;
            } else {
                ((long[]) row)[i] = v;
            }
        }

        private int starts(int sheet, int i, int person, int n) {
            if (!in(sheet, 0, 3) || !in(person, 0, now.people.size() - 1) || !in(n, 0, 8)
                || !in(n, 0, now.people.size() - person)) {
                return -1;
            }
            if (sheets[sheet] == null) {
                return -11;
            }
            if (!(sheets[sheet] instanceof short[] row)) {
                return -13;
            }
            if (i < 0 || (long) i + n > row.length) {
                return -12;
            }
            for (int k = 0; k < n; k++) {
                now.people.get(person + k).start = row[i + k] < 0 ? 0 : row[i + k] > 99 ? 99 : row[i + k];
            }
            return n;
        }

        private int taken(int shelf, int as) {
            if (!in(shelf, 0, 3) || !in(as, 0, 5) && !in(as, 10, 13)) {
                return -1;
            }
            Object o = held(shelf);
            if (o == null) {
                return -11;
            }
            if (o instanceof Person p) {
                return as < 6 && kindClass(as).isInstance(p.asThing(ran)) ? p.number : -13;
            }
            return as >= 10 && sortOf(o) == as - 10 ? length(o) : -13;
        }

        private int act(int shelf, int act, int x) {
            ran = new ArrayList<>();
            if (!in(shelf, 0, 3) || !in(act, 0, 3) || !(held(shelf) instanceof Person p)) {
                return 0;
            }
            Clerk thing = p.asThing(ran);
            try {
                return act == 0 ? thing.climbs(x) : act == 1 ? thing.yields(x) : act == 2 ? thing.shares(x)
                    : thing.tells(x);
            } catch (Parted e) {
                return -15;
            }
        }
    }
}
