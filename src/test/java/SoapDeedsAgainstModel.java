import java.util.ArrayList;
import java.util.Arrays;
import java.util.HashMap;
import java.util.HashSet;
import java.util.LinkedHashMap;
import java.util.List;
import java.util.Map;
import java.util.Random;
import java.util.Set;

/** Random runs of calls, answered by the class and by a second, plain telling of the document. */
public final class SoapDeedsAgainstModel {
    private static int wrong = 0;

    public static void main(String[] args) {
        int runs = args.length > 0 ? Integer.parseInt(args[0]) : 600;
        long first = args.length > 1 ? Long.parseLong(args[1]) : 1;
        for (long run = first; run < first + runs && wrong < 20; run++) {
            try {
                new Run(run).go();
            } catch (RuntimeException e) {
                wrong++;
                System.out.println("run " + run + " threw " + e);
                e.printStackTrace(System.out);
            }
        }
        System.out.println(wrong == 0 ? "class and model agree" : wrong + " answers differ");
        if (wrong != 0) {
            System.exit(1);
        }
    }

    /** One object and one model, asked the same. */
    private static final class Run {
        private final long number;
        private final Random random;
        private final SoapDeeds x = new SoapDeeds();
        private final Model m = new Model();
        private int calls = 0;
        private String text = "";

        Run(long number) {
            this.number = number;
            this.random = new Random(number * 7919);
        }

        private int pick(int... of) {
            return of[random.nextInt(of.length)];
        }

        private int near(int most) {
            int roll = random.nextInt(40);
            if (roll == 0) {
                return pick(Integer.MIN_VALUE, Integer.MAX_VALUE, -1, -2, 255, 256, 1000);
            }
            return roll < 4 ? random.nextInt(most + 4) - 2 : random.nextInt(Math.max(1, most + 1));
        }

        /** Mostly one that is there: has(sort) of them. */
        private int one(int sort) {
            return random.nextInt(12) == 0 ? near(6) : random.nextInt(Math.max(1, m.has(sort)));
        }

        private void same(String call, long got, long due) {
            calls++;
            if (got != due) {
                wrong++;
                System.out.println("run " + number + ", call " + calls + ": " + call + " answered " + got
                    + ", the model says " + due + "; the room was " + text);
            }
        }

        private static long of(boolean b) {
            return b ? 1 : 0;
        }

        private void feedBytes(byte[] bytes) {
            int at = 0;
            do {
                int[] v = new int[5];
                for (int k = 0; k < 20; k++) {
                    int b = at + k < bytes.length ? bytes[at + k] & 255 : 32;
                    v[k / 4] = v[k / 4] << 8 | b;
                }
                same("feed", x.feed(v[0], v[1], v[2], v[3], v[4]), m.feed(v));
                at += 20;
            } while (at < bytes.length);
            int n = bytes.length;
            same("end(" + n + ")", of(x.end(n)), of(m.end(n)));
        }

        void go() {
            if (random.nextInt(8) == 0) {
                askMany(10);
            }
            int rooms = 1 + random.nextInt(3);
            for (int r = 0; r < rooms && calls < 400 && wrong == 0; r++) {
                readRoom(random.nextInt(3) == 0);
                askMany(120);
            }
        }

        private void readRoom(boolean spoilt) {
            same("end(0)", of(x.end(0)), of(m.end(0)));
            text = new Author(random).room(spoilt);
            byte[] bytes = new byte[text.length()];
            for (int k = 0; k < bytes.length; k++) {
                bytes[k] = (byte) text.charAt(k);
            }
            if (bytes.length > 1600) {
                return;
            }
            feedBytes(bytes);
            same("room", x.room(), m.room());
            same("fault(0)", x.fault(0), m.fault(0));
            same("fault(1)", x.fault(1), m.fault(1));
            for (int k = -1; k < 14; k++) {
                same("has(" + k + ")", x.has(k), m.has(k));
            }
        }

        private void askMany(int most) {
            int n = random.nextInt(most);
            for (int k = 0; k < n && calls < 480 && wrong == 0; k++) {
                ask();
            }
        }

        private void ask() {
            int d = one(2);
            int h = one(3);
            int b = one(4);
            int what = near(4);
            int few = near(20);
            int many = near(40);
            int part = near(2);
            int one = random.nextInt(4) == 0 ? many : 1;
            switch (random.nextInt(40)) {
                case 0: { int w = near(12); same("has " + w, x.has(w), m.has(w)); break; }
                case 1: { int k = near(5); int w = near(2); int which = one(2 + Math.floorMod(w, 3));
                    same("letter " + w + " " + which + " " + k, x.letter(w, which, k), m.letter(w, which, k)); break; }
                case 2: same("lamp " + part, x.lamp(part), m.lamp(part)); break;
                case 3: same("door " + d + " " + what, x.door(d, what), m.door(d, what)); break;
                case 4: same("heir " + h + " " + what, x.heir(h, what), m.heir(h, what)); break;
                case 5: same("bubble " + b + " " + what, x.bubble(b, what), m.bubble(b, what)); break;
                case 6: same("deed " + b + " " + part, x.deed(b, part), m.deed(b, part)); break;
                case 7: { int c = near(m.has(0)); int r = near(m.has(1));
                    same("draught " + c + " " + r, x.draught(c, r), m.draught(c, r)); break; }
                case 8: case 9: same("later " + b + " " + many + " " + part, x.later(b, many, part), m.later(b, many, part)); break;
                case 10: same("goes " + b, x.goes(b), m.goes(b)); break;
                case 11: same("owner " + b + " " + many, x.owner(b, many), m.owner(b, many)); break;
                case 12: case 13: case 14: same("doors " + b + " " + h + " " + few, x.doors(b, h, few), m.doors(b, h, few)); break;
                case 15: case 16: same("stand " + h + " " + few + " " + part, x.stand(h, few, part), m.stand(h, few, part)); break;
                case 17: case 18: same("shine " + few + " " + part, x.shine(few, part), m.shine(few, part)); break;
                case 19: case 20: same("lasts " + b + " " + few, x.lasts(b, few), m.lasts(b, few)); break;
                case 21: case 22: same("odds " + b + " " + h, x.odds(b, h), m.odds(b, h)); break;
                case 23: feel(); break;
                case 24: { int k = random.nextBoolean() ? -1 : near(20);
                    same("from " + b + " " + k, x.from(b, k), m.from(b, k)); break; }
                case 25: { int w = near(1); same("tells " + b + " " + w, x.tells(b, w), m.tells(b, w)); break; }
                case 26: same("seconds " + one, x.seconds(one), m.seconds(one)); break;
                case 27: same("chance " + one, x.chance(one), m.chance(one)); break;
                case 28: { int w = near(1); same("swing " + d + " " + w, of(x.swing(d, w)), of(m.swing(d, w))); break; }
                case 29: { int w = near(3); same("tiptoe " + h + " " + w, of(x.tiptoe(h, w)), of(m.tiptoe(h, w))); break; }
                case 30: { int c = near(m.has(0)); int r = near(m.has(1));
                    same("carry " + c + " " + r, of(x.carry(c, r)), of(m.carry(c, r))); break; }
                case 31: case 32: case 33: same("undo", of(x.undo()), of(m.undo())); break;
                case 34: { int s = pick(0, 1, 77, 123456789, Integer.MAX_VALUE, -1, Integer.MIN_VALUE);
                    same("seed " + s, of(x.seed(s)), of(m.seed(s))); break; }
                case 35: { int k = near(3); int w = near(3); same("kept " + k + " " + w, x.kept(k, w), m.kept(k, w)); break; }
                case 36: image(); break;
                case 37: on(); break;
                case 38: { int w = near(5); same("status " + w, x.status(w), m.status(w)); break; }
                default: strayTape(); break;
            }
        }

        private void strayTape() {
            int n = near(40);
            same("end(" + n + ")", of(x.end(n)), of(m.end(n)));
            if (random.nextInt(30) == 0) {
                int[] v = {random.nextInt(), 0, 0, 0, 0};
                for (int k = 0; k < 85; k++) {
                    same("feed", x.feed(v[0], 0, 0, 0, 0), m.feed(v));
                }
                same("end(0)", of(x.end(0)), of(m.end(0)));
            }
            if (random.nextInt(4) == 0) {
                same("on", of(x.on()), of(m.on()));
            } else if (random.nextInt(4) == 0) {
                same("feel", x.feel(), m.feel());
            }
        }

        private void feel() {
            same("end(0)", of(x.end(0)), of(m.end(0)));
            int rows = random.nextInt(8) == 0 ? random.nextInt(19) : 1 + random.nextInt(2);
            byte[] bytes = new byte[4 * rows + (random.nextInt(20) == 0 ? 1 : 0)];
            for (int r = 0; r < rows; r++) {
                int n = random.nextInt(20) == 0 ? 28 + random.nextInt(5) : random.nextInt(8);
                int bubble = random.nextInt(20) == 0 ? random.nextInt(256) : random.nextInt(Math.max(1, m.has(4)));
                int column = m.later(bubble, n, 0);
                int row = m.later(bubble, n, 1);
                if (random.nextInt(12) == 0) {
                    column = random.nextInt(8);
                }
                if (random.nextInt(12) == 0) {
                    row = random.nextInt(8);
                }
                bytes[4 * r] = (byte) n;
                bytes[4 * r + 1] = (byte) bubble;
                bytes[4 * r + 2] = (byte) column;
                bytes[4 * r + 3] = (byte) row;
            }
            feedBytes(bytes);
            same("feel", x.feel(), m.feel());
            same("has(10)", x.has(10), m.has(10));
            for (int bubble = 0; bubble < m.has(4); bubble++) {
                same("from " + bubble, x.from(bubble, -1), m.from(bubble, -1));
            }
        }

        private void image() {
            int n = m.image();
            same("image", x.image(), n);
            for (int k = -1; k <= n; k++) {
                same("octet " + k, x.octet(k), m.octet(k));
            }
        }

        private void on() {
            same("end(0)", of(x.end(0)), of(m.end(0)));
            int n = m.image();
            same("image", x.image(), n);
            byte[] bytes = new byte[n];
            for (int k = 0; k < n; k++) {
                bytes[k] = (byte) m.octet(k);
            }
            int changes = random.nextInt(4);
            for (int c = 0; c < changes; c++) {
                int k = random.nextInt(n);
                bytes[k] = (byte) pick(0, 1, 2, 3, 5, 99, 100, 255, bytes[k] + 1, bytes[k] - 1, bytes[random.nextInt(n)]);
            }
            if (random.nextInt(4) == 0) {
                bytes[0] = 3;
                bytes[1] = (byte) pick(0xe7, 0xe6, 0xe8, 0xd0, 0xe0);
            }
            if (random.nextInt(10) != 0) {
                int c = 197;
                for (int k = 0; k < n - 1; k++) {
                    c = (5 * c + (bytes[k] & 255)) % 251;
                }
                bytes[n - 1] = (byte) c;
            }
            if (random.nextInt(20) == 0) {
                bytes = Arrays.copyOf(bytes, n + pick(-1, 1));
            }
            feedBytes(bytes);
            same("on", of(x.on()), of(m.on()));
            image();
        }
    }

    /** Writes texts of rooms, some of them with something wrong. */
    private static final class Author {
        private static final String[] OWN = ("room by lamp door at blows reach open heir tall bubble film size thins bursts hue breath "
            + "second drift deeds if or and not all min max").split(" ");
        private final Random random;
        private final StringBuilder out = new StringBuilder();
        private int columns;
        private int rows;
        private final List<String> names = new ArrayList<>();
        private int deepest;

        Author(Random random) {
            this.random = random;
        }

        private String name() {
            for (;;) {
                StringBuilder b = new StringBuilder();
                int n = 1 + random.nextInt(6);
                for (int k = 0; k < n; k++) {
                    b.append((char) ('a' + random.nextInt(26)));
                }
                String s = b.toString();
                if (!names.contains(s) && !Arrays.asList(OWN).contains(s)) {
                    names.add(s);
                    return s;
                }
            }
        }

        private String cell(Set<Integer> taken) {
            for (;;) {
                int c = random.nextInt(columns);
                int r = random.nextInt(rows);
                if (taken == null || taken.add(8 * r + c)) {
                    return c + " " + r;
                }
            }
        }

        String room(boolean spoilt) {
            deepest = random.nextInt(8) == 0 ? 9 : 3;
            columns = 3 + random.nextInt(random.nextBoolean() ? 2 : 5);
            rows = 3 + random.nextInt(random.nextBoolean() ? 2 : 5);
            List<String> lines = new ArrayList<>();
            List<String> opens = new ArrayList<>();
            Set<Integer> heirs = new HashSet<>();
            Set<Integer> bubbles = new HashSet<>();
            int doors = random.nextInt(7);
            for (int k = 0; k < doors; k++) {
                String name = name();
                String line = "door " + name + " at " + cell(null) + " blows " + random.nextInt(4) + " reach " + (1 + random.nextInt(6));
                lines.add(line);
                if (random.nextInt(3) > 0) {
                    opens.add("open " + name);
                }
            }
            int many = random.nextInt(3) == 0 ? random.nextInt(7) : 6;
            for (int k = 0; k < many; k++) {
                lines.add("heir " + name() + " at " + cell(heirs) + " tall " + random.nextInt(10));
            }
            many = random.nextInt(12) == 0 ? 0 : 1 + random.nextInt(6);
            for (int k = 0; k < many; k++) {
                int film = random.nextInt(4) == 0 ? 1 + random.nextInt(99) : 1 + random.nextInt(20);
                lines.add("bubble " + name() + " at " + cell(bubbles) + " film " + film + " size " + (1 + random.nextInt(9)));
            }
            if (random.nextInt(3) > 0) {
                lines.add(random.nextInt(3) == 0 ? "thins " + sum("drift", 0) : "thins 1+drift");
            }
            if (random.nextInt(3) > 0) {
                lines.add(random.nextInt(3) == 0 ? "bursts " + test("tall", 0) : "bursts tall>" + random.nextInt(9) + " and film<" + random.nextInt(12));
            }
            if (random.nextInt(3) > 0) {
                lines.add("hue " + sum("deeds", 0));
            }
            lines.addAll(opens);
            int lamps = random.nextInt(3);
            for (int k = 0; k < lamps; k++) {
                lines.add("lamp " + cell(null));
            }
            int breaths = random.nextInt(3);
            for (int k = 0; k < breaths; k++) {
                lines.add("breath " + random.nextInt(101));
            }
            java.util.Collections.shuffle(lines, random);
            lines.sort((p, q) -> Boolean.compare(p.startsWith("open"), q.startsWith("open")));
            if (random.nextInt(40) == 0) {
                int more = 78 + random.nextInt(4);
                while (lines.size() < more) {
                    lines.add("lamp 0 0");
                }
            }
            out.append("room " + columns + " by " + rows + ";");
            for (String line : lines) {
                out.append(random.nextInt(10) == 0 ? "\n" : "");
                out.append(line).append(random.nextInt(10) == 0 ? " ;" : ";");
            }
            return spoilt ? spoil(out.toString()) : out.toString();
        }

        private String spoil(String s) {
            StringBuilder b = new StringBuilder(s);
            int many = 1 + random.nextInt(2);
            for (int k = 0; k < many && b.length() > 0; k++) {
                int at = random.nextInt(b.length());
                switch (random.nextInt(6)) {
                    case 0: b.deleteCharAt(at); break;
                    case 1: b.insert(at, anything()); break;
                    case 2: b.setLength(at); break;
                    case 3: b.setCharAt(at, anything().charAt(0)); break;
                    case 4: tokenSwap(b); break;
                    default: lineSwap(b); break;
                }
            }
            return b.toString();
        }

        private void tokenSwap(StringBuilder b) {
            String[] tokens = b.toString().split("(?<=\\W)|(?=\\W)");
            int p = random.nextInt(tokens.length);
            tokens[p] = random.nextBoolean() ? tokens[random.nextInt(tokens.length)] : anything();
            b.setLength(0);
            b.append(String.join("", tokens));
        }

        private void lineSwap(StringBuilder b) {
            String[] lines = b.toString().split("(?<=;)");
            if (lines.length < 2) {
                return;
            }
            int p = 1 + random.nextInt(lines.length - 1);
            lines[p] = lines[p] + lines[1 + random.nextInt(lines.length - 1)];
            b.setLength(0);
            b.append(String.join("", lines));
        }

        private String anything() {
            String[] some = {" ", "\n", ";", "(", ")", "[", "]", ",", "+", "-", "*", "/", "%", "<", ">", "=", "0", "7", "9", "12345",
                "a", "z", "A", "\t", "\u00e9", "abcdefg", "not ", "all", "room", "x", "99999", "100", "_", "not not not not not not not not ",
                "((((((((", "[[[[[[[[", "min(", "if(", "min(((((((1"};
            return random.nextInt(3) == 0 ? OWN[random.nextInt(OWN.length)] : some[random.nextInt(some.length)];
        }

        private String sum(String own, int depth) {
            StringBuilder b = new StringBuilder(product(own, depth));
            while (random.nextInt(3) == 0) {
                b.append(random.nextBoolean() ? "+" : " - ").append(product(own, depth));
            }
            return b.toString();
        }

        private String product(String own, int depth) {
            StringBuilder b = new StringBuilder(part(own, depth));
            while (random.nextInt(4) == 0) {
                b.append("*/%".charAt(random.nextInt(3))).append(part(own, depth));
            }
            return b.toString();
        }

        private String part(String own, int depth) {
            int roll = random.nextInt(depth > deepest ? 6 : 10);
            switch (roll) {
                case 0: case 1: return "" + random.nextInt(random.nextInt(6) == 0 ? 10000 : 12);
                case 2: return "film";
                case 3: return "size";
                case 4: return "second";
                case 5: return own;
                case 6: return "(" + sum(own, depth + 1) + ")";
                case 7: return "min(" + sum(own, depth + 1) + "," + sum(own, depth + 1) + ")";
                case 8: return "max (" + sum(own, depth + 1) + ", " + sum(own, depth + 1) + " )";
                default: return "if(" + test(own, depth + 1) + "," + sum(own, depth + 1) + "," + sum(own, depth + 1) + ")";
            }
        }

        private String test(String own, int depth) {
            StringBuilder b = new StringBuilder(both(own, depth));
            while (random.nextInt(4) == 0) {
                b.append(" or ").append(both(own, depth));
            }
            return b.toString();
        }

        private String both(String own, int depth) {
            StringBuilder b = new StringBuilder(fact(own, depth));
            while (random.nextInt(4) == 0) {
                b.append(" and ").append(fact(own, depth));
            }
            return b.toString();
        }

        private String fact(String own, int depth) {
            int roll = random.nextInt(depth > deepest ? 7 : 10);
            if (roll == 0) {
                return "all";
            }
            if (roll < 7) {
                return sum(own, depth) + "<>=".charAt(random.nextInt(3)) + sum(own, depth);
            }
            return roll == 7 ? "[" + test(own, depth + 1) + "]" : "not " + fact(own, depth + 1);
        }
    }

    private static final class Fault extends RuntimeException {
        final int kind;
        final int place;

        Fault(int kind, int place) {
            super(null, null, false, false);
            this.kind = kind;
            this.place = place;
        }
    }

    /** A formula as a tree. */
    private interface Tree {
        long value(Map<String, Integer> env);
    }

    private record DoorTold(String name, int c, int r, int way, int reach) { }

    private record HeirTold(String name, int c, int r, int tall) { }

    private record BubbleTold(String name, int c, int r, int film, int size) { }

    private static final class Told {
        int columns;
        int rows;
        int statements;
        int[] lamp;
        int breath;
        List<DoorTold> doors = new ArrayList<>();
        List<HeirTold> heirs = new ArrayList<>();
        List<BubbleTold> bubbles = new ArrayList<>();
        Set<String> open = new HashSet<>();
        Tree thins;
        Tree bursts;
        Tree hue;
    }

    /** Reads right from the bytes, a fault being thrown where it is seen. */
    private static final class Reader {
        private static final Set<String> OWN = new HashSet<>(Arrays.asList(Author.OWN));
        private final int[] t;
        private int p = 0;
        private final Told told = new Told();
        private String allowed;
        private int nested = 0;

        Reader(int[] t) {
            this.t = t;
        }

        private boolean letter(int k) {
            return k < t.length && t[k] >= 'a' && t[k] <= 'z';
        }

        private boolean digit(int k) {
            return k < t.length && t[k] >= '0' && t[k] <= '9';
        }

        private void blanks() {
            while (p < t.length && (t[p] == 32 || t[p] == 10)) {
                p++;
            }
        }

        /** What stands next, as a text; "" at the end. What may stand nowhere is thrown. */
        private String peek() {
            blanks();
            int q = p;
            boolean glued = p > 0 && (letter(p - 1) || digit(p - 1)) && (letter(p) || digit(p));
            if (glued) {
                throw new Fault(1, p);
            }
            StringBuilder b = new StringBuilder();
            if (letter(q)) {
                while (letter(q)) {
                    if (q - p == 6) {
                        throw new Fault(1, q);
                    }
                    b.append((char) t[q++]);
                }
            } else if (digit(q)) {
                while (digit(q)) {
                    if (q - p == 4) {
                        throw new Fault(1, q);
                    }
                    b.append((char) t[q++]);
                }
            } else if (q < t.length) {
                b.append((char) t[q]);
            }
            return b.toString();
        }

        private String take() {
            String s = peek();
            p += s.length();
            return s;
        }

        private void need(String s) {
            if (!peek().equals(s)) {
                throw new Fault(1, p);
            }
            take();
        }

        private boolean eat(String s) {
            boolean is = peek().equals(s);
            if (is) {
                take();
            }
            return is;
        }

        private int number(int low, int high) {
            String s = peek();
            if (s.isEmpty() || !Character.isDigit(s.charAt(0)) || s.charAt(0) > 127) {
                throw new Fault(1, p);
            }
            int n = Integer.parseInt(s);
            if (n < low || n > high) {
                throw new Fault(4, p);
            }
            take();
            return n;
        }

        private String anyName() {
            String s = peek();
            if (!letter(p) || OWN.contains(s)) {
                throw new Fault(1, p);
            }
            return s;
        }

        private String newName() {
            String s = anyName();
            boolean there = told.doors.stream().anyMatch(d -> d.name().equals(s))
                || told.heirs.stream().anyMatch(h -> h.name().equals(s))
                || told.bubbles.stream().anyMatch(h -> h.name().equals(s));
            if (there) {
                throw new Fault(2, p);
            }
            return take();
        }

        private void tooMany(boolean is, int start) {
            if (is) {
                throw new Fault(6, start);
            }
        }

        Told read() {
            blanks();
            while (p < t.length) {
                tooMany(told.statements == 80, p);
                int start = p;
                String word = peek();
                if (word.equals("room") != (told.statements == 0)) {
                    throw new Fault(1, start);
                }
                statement(word, start);
                told.statements++;
                need(";");
                blanks();
            }
            if (told.statements == 0) {
                throw new Fault(1, t.length);
            }
            return told;
        }

        private void statement(String word, int start) {
            switch (word) {
                case "room":
                    take();
                    told.columns = number(3, 7);
                    need("by");
                    told.rows = number(3, 7);
                    break;
                case "lamp": {
                    take();
                    int c = number(0, told.columns - 1);
                    int r = number(0, told.rows - 1);
                    told.lamp = new int[] {c, r};
                    break;
                }
                case "door": {
                    tooMany(told.doors.size() == 6, start);
                    take();
                    String name = newName();
                    need("at");
                    int c = number(0, told.columns - 1);
                    int r = number(0, told.rows - 1);
                    need("blows");
                    int way = number(0, 3);
                    need("reach");
                    told.doors.add(new DoorTold(name, c, r, way, number(1, 6)));
                    break;
                }
                case "open": {
                    take();
                    String name = anyName();
                    boolean door = told.doors.stream().anyMatch(d -> d.name().equals(name));
                    if (!door || !told.open.add(name)) {
                        throw new Fault(3, p);
                    }
                    take();
                    break;
                }
                case "heir": {
                    tooMany(told.heirs.size() == 6, start);
                    take();
                    String name = newName();
                    need("at");
                    int c = number(0, told.columns - 1);
                    blanks();
                    int at = p;
                    int r = number(0, told.rows - 1);
                    if (told.heirs.stream().anyMatch(h -> h.c() == c && h.r() == r)) {
                        throw new Fault(4, at);
                    }
                    need("tall");
                    told.heirs.add(new HeirTold(name, c, r, number(0, 9)));
                    break;
                }
                case "bubble": {
                    tooMany(told.bubbles.size() == 6, start);
                    take();
                    String name = newName();
                    need("at");
                    int c = number(0, told.columns - 1);
                    blanks();
                    int at = p;
                    int r = number(0, told.rows - 1);
                    if (told.bubbles.stream().anyMatch(h -> h.c() == c && h.r() == r)) {
                        throw new Fault(4, at);
                    }
                    need("film");
                    int film = number(1, 99);
                    need("size");
                    told.bubbles.add(new BubbleTold(name, c, r, film, number(1, 9)));
                    break;
                }
                case "thins":
                    tooMany(told.thins != null, start);
                    take();
                    allowed = "drift";
                    told.thins = sum();
                    break;
                case "bursts":
                    tooMany(told.bursts != null, start);
                    take();
                    allowed = "tall";
                    told.bursts = test();
                    break;
                case "hue":
                    tooMany(told.hue != null, start);
                    take();
                    allowed = "deeds";
                    told.hue = sum();
                    break;
                case "breath":
                    take();
                    told.breath = number(0, 100);
                    break;
                default:
                    throw new Fault(1, start);
            }
        }

        private static long cut(long v) {
            return Math.max(-1000000, Math.min(1000000, v));
        }

        private static long floor(long a, long b) {
            if (b == 0) {
                return 0;
            }
            return (long) Math.floor((double) a / (double) b);
        }

        private Tree sum() {
            Tree left = product();
            for (;;) {
                Tree a = left;
                if (eat("+")) {
                    Tree b = product();
                    left = env -> cut(a.value(env) + b.value(env));
                } else if (eat("-")) {
                    Tree b = product();
                    left = env -> cut(a.value(env) - b.value(env));
                } else {
                    return left;
                }
            }
        }

        private Tree product() {
            Tree left = part();
            for (;;) {
                Tree a = left;
                if (eat("*")) {
                    Tree b = part();
                    left = env -> cut(a.value(env) * b.value(env));
                } else if (eat("/")) {
                    Tree b = part();
                    left = env -> cut(floor(a.value(env), b.value(env)));
                } else if (eat("%")) {
                    Tree b = part();
                    left = env -> {
                        long p = a.value(env);
                        long q = b.value(env);
                        return q == 0 ? 0 : cut(p - q * floor(p, q));
                    };
                } else {
                    return left;
                }
            }
        }

        private void opens(String sign) {
            if (!peek().equals(sign)) {
                throw new Fault(1, p);
            }
            if (nested == 7) {
                throw new Fault(5, p);
            }
            nested++;
            take();
        }

        private void closes(String sign) {
            need(sign);
            nested--;
        }

        private Tree part() {
            String s = peek();
            if (digit(p)) {
                long n = number(0, 9999);
                return env -> n;
            }
            if (s.equals("(")) {
                opens("(");
                Tree a = sum();
                closes(")");
                return a;
            }
            if (s.equals("min") || s.equals("max")) {
                take();
                opens("(");
                Tree a = sum();
                need(",");
                Tree b = sum();
                closes(")");
                return s.equals("min") ? env -> Math.min(a.value(env), b.value(env)) : env -> Math.max(a.value(env), b.value(env));
            }
            if (s.equals("if")) {
                take();
                opens("(");
                Tree a = test();
                need(",");
                Tree b = sum();
                need(",");
                Tree c = sum();
                closes(")");
                return env -> a.value(env) == 1 ? b.value(env) : c.value(env);
            }
            if (s.equals("film") || s.equals("size") || s.equals("second") || s.equals(allowed)) {
                take();
                return env -> env.get(s);
            }
            throw new Fault(1, p);
        }

        private Tree test() {
            Tree left = both();
            while (eat("or")) {
                Tree a = left;
                Tree b = both();
                left = env -> a.value(env) == 1 || b.value(env) == 1 ? 1 : 0;
            }
            return left;
        }

        private Tree both() {
            Tree left = fact();
            while (eat("and")) {
                Tree a = left;
                Tree b = fact();
                left = env -> a.value(env) == 1 && b.value(env) == 1 ? 1 : 0;
            }
            return left;
        }

        private Tree fact() {
            String s = peek();
            if (s.equals("not")) {
                opens("not");
                Tree a = fact();
                nested--;
                return env -> 1 - a.value(env);
            }
            if (s.equals("[")) {
                opens("[");
                Tree a = test();
                closes("]");
                return a;
            }
            if (eat("all")) {
                return env -> 1;
            }
            Tree a = sum();
            String sign = peek();
            if (!sign.equals("<") && !sign.equals(">") && !sign.equals("=")) {
                throw new Fault(1, p);
            }
            take();
            Tree b = sum();
            return env -> {
                int c = Long.compare(a.value(env), b.value(env));
                return (sign.equals("<") ? c < 0 : sign.equals(">") ? c > 0 : c == 0) ? 1 : 0;
            };
        }
    }

    private static final class Soap {
        int number;
        int c;
        int r;
        int film;
        int size;
        Set<Integer> deeds = new HashSet<>();

        Soap twin() {
            Soap s = new Soap();
            s.number = number;
            s.c = c;
            s.r = r;
            s.film = film;
            s.size = size;
            s.deeds = new HashSet<>(deeds);
            return s;
        }
    }

    /** All that changes. Soaps that are gone are not in the list. */
    private static final class World {
        int second;
        int[] lamp;
        boolean[] open;
        List<int[]> heirs = new ArrayList<>();
        List<Soap> soaps = new ArrayList<>();
        Map<Integer, Integer> owners = new HashMap<>();
        int[] rent;
        List<int[]> kept = new ArrayList<>();

        World twin() {
            World w = new World();
            w.second = second;
            w.lamp = lamp;
            w.open = open.clone();
            for (int[] h : heirs) {
                w.heirs.add(h.clone());
            }
            for (Soap s : soaps) {
                w.soaps.add(s.twin());
            }
            w.owners.putAll(owners);
            w.rent = rent.clone();
            w.kept.addAll(kept);
            return w;
        }

        Soap soap(int number) {
            for (Soap s : soaps) {
                if (s.number == number) {
                    return s;
                }
            }
            return null;
        }
    }

    /** The document, told again. */
    private static final class Model {
        private final List<Integer> tape = new ArrayList<>();
        private Told told = null;
        private World world = null;
        private int fault = 0;
        private int place = -1;
        private long seed = 1;
        private final int[] refused = new int[6];
        private List<int[]> felt = null;
        private final List<World> past = new ArrayList<>();
        private List<Integer> image = new ArrayList<>();

        int feed(int[] v) {
            if (tape.size() + 20 > 1600) {
                refused[0]++;
                return -1;
            }
            for (int n : v) {
                for (int s = 24; s >= 0; s -= 8) {
                    tape.add(n >>> s & 255);
                }
            }
            return tape.size();
        }

        boolean end(int n) {
            if (n < 0 || n > tape.size()) {
                refused[0]++;
                return false;
            }
            while (tape.size() > n) {
                tape.remove(tape.size() - 1);
            }
            return true;
        }

        private int[] takeTape() {
            int[] t = tape.stream().mapToInt(k -> k).toArray();
            tape.clear();
            return t;
        }

        int room() {
            try {
                told = new Reader(takeTape()).read();
                fault = 0;
                place = -1;
            } catch (Fault f) {
                fault = f.kind;
                place = f.place;
                refused[1]++;
                return -1;
            }
            world = new World();
            world.lamp = told.lamp;
            world.open = new boolean[told.doors.size()];
            for (int k = 0; k < world.open.length; k++) {
                world.open[k] = told.open.contains(told.doors.get(k).name());
            }
            for (HeirTold h : told.heirs) {
                world.heirs.add(new int[] {h.c(), h.r()});
            }
            for (BubbleTold b : told.bubbles) {
                Soap s = new Soap();
                s.number = world.soaps.size();
                s.c = b.c();
                s.r = b.r();
                s.film = b.film();
                s.size = b.size();
                s.deeds.add(s.number);
                world.soaps.add(s);
            }
            world.rent = new int[told.bubbles.size()];
            past.clear();
            felt = null;
            return told.statements;
        }

        int fault(int what) {
            return what == 0 ? fault : what == 1 ? place : -1;
        }

        int has(int what) {
            if (what == 12) {
                return (int) seed;
            }
            if (what < 0 || what > 12) {
                return -1;
            }
            if (told == null) {
                return 0;
            }
            int inSoap = world.soaps.stream().mapToInt(s -> s.deeds.size()).sum();
            int[] all = {told.columns, told.rows, told.doors.size(), told.heirs.size(), told.bubbles.size(), world.second,
                world.soaps.size(), world.owners.size(), told.bubbles.size() - inSoap - world.owners.size(),
                Math.min(40, world.kept.size()), felt == null ? 0 : felt.size(), past.size()};
            return all[what];
        }

        private boolean isDoor(int k) {
            return told != null && k >= 0 && k < told.doors.size();
        }

        private boolean isHeir(int k) {
            return told != null && k >= 0 && k < told.heirs.size();
        }

        private boolean isBubble(int k) {
            return told != null && k >= 0 && k < told.bubbles.size();
        }

        private boolean isCell(int c, int r) {
            return told != null && c >= 0 && c < told.columns && r >= 0 && r < told.rows;
        }

        int letter(int kind, int which, int k) {
            String name;
            if (kind == 0 && isDoor(which)) {
                name = told.doors.get(which).name();
            } else if (kind == 1 && isHeir(which)) {
                name = told.heirs.get(which).name();
            } else if (kind == 2 && isBubble(which)) {
                name = told.bubbles.get(which).name();
            } else {
                return -1;
            }
            return k < 0 || k > 5 ? -1 : k < name.length() ? name.charAt(k) - 96 : 0;
        }

        int lamp(int what) {
            return told == null || world.lamp == null || what < 0 || what > 1 ? -1 : world.lamp[what];
        }

        int door(int k, int what) {
            if (!isDoor(k) || what < 0 || what > 4) {
                return -1;
            }
            DoorTold d = told.doors.get(k);
            return new int[] {d.c(), d.r(), d.way(), d.reach(), world.open[k] ? 1 : 0}[what];
        }

        int heir(int k, int what) {
            if (!isHeir(k) || what < 0 || what > 4) {
                return -1;
            }
            int many = 0;
            int rent = 0;
            for (Map.Entry<Integer, Integer> e : world.owners.entrySet()) {
                if (e.getValue() == k) {
                    many++;
                    rent += world.rent[e.getKey()];
                }
            }
            return new int[] {world.heirs.get(k)[0], world.heirs.get(k)[1], told.heirs.get(k).tall(), many, rent}[what];
        }

        private static int bits(Set<Integer> set) {
            int b = 0;
            for (int k : set) {
                b |= 1 << k;
            }
            return b;
        }

        int bubble(int k, int what) {
            if (!isBubble(k) || what < 0 || what > 4) {
                return -1;
            }
            Soap s = world.soap(k);
            return s == null ? what < 2 ? -1 : 0 : new int[] {s.c, s.r, s.film, s.size, bits(s.deeds)}[what];
        }

        int deed(int k, int what) {
            if (!isBubble(k) || what < 0 || what > 2) {
                return -1;
            }
            if (what == 0) {
                return world.owners.getOrDefault(k, -1);
            }
            if (what == 2) {
                return world.rent[k];
            }
            for (Soap s : world.soaps) {
                if (s.deeds.contains(k)) {
                    return s.number;
                }
            }
            return -1;
        }

        private static final int[][] STEP = {{0, -1}, {1, 0}, {0, 1}, {-1, 0}};

        private int wind(World w, int c, int r) {
            for (int k = 0; k < told.doors.size(); k++) {
                DoorTold d = told.doors.get(k);
                for (int n = 0; w.open[k] && n <= d.reach(); n++) {
                    if (d.c() + n * STEP[d.way()][0] == c && d.r() + n * STEP[d.way()][1] == r) {
                        return d.way();
                    }
                }
            }
            return -1;
        }

        int draught(int c, int r) {
            return isCell(c, r) ? wind(world, c, r) : -1;
        }

        private int heirAt(World w, int c, int r) {
            for (int k = 0; k < w.heirs.size(); k++) {
                if (w.heirs.get(k)[0] == c && w.heirs.get(k)[1] == r) {
                    return k;
                }
            }
            return -1;
        }

        private int second(World w, int breath) {
            Map<Integer, Integer> moved = new HashMap<>();
            Map<Integer, List<Soap>> byCell = new LinkedHashMap<>();
            for (Soap s : w.soaps) {
                int way = wind(w, s.c, s.r);
                way = way == -1 ? breath : way;
                boolean goes = way != -1 && isCell(s.c + STEP[way][0], s.r + STEP[way][1]);
                moved.put(s.number, goes ? 1 : 0);
                if (goes) {
                    s.c += STEP[way][0];
                    s.r += STEP[way][1];
                }
                byCell.computeIfAbsent(100 * s.c + s.r, z -> new ArrayList<>()).add(s);
            }
            for (List<Soap> here : byCell.values()) {
                Soap first = here.stream().min((p, q) -> p.number - q.number).get();
                for (Soap s : here) {
                    if (s != first) {
                        first.size += s.size;
                        first.film = Math.max(first.film, s.film);
                        first.deeds.addAll(s.deeds);
                        w.soaps.remove(s);
                    }
                }
                first.size = Math.min(9, first.size);
            }
            int burst = 0;
            for (Soap s : new ArrayList<>(w.soaps)) {
                int heir = heirAt(w, s.c, s.r);
                Map<String, Integer> env = new HashMap<>();
                env.put("film", s.film);
                env.put("size", s.size);
                env.put("second", w.second);
                env.put("drift", moved.get(s.number));
                env.put("tall", heir < 0 ? 0 : told.heirs.get(heir).tall());
                env.put("deeds", s.deeds.size());
                long less = told.thins == null ? 1 : told.thins.value(env);
                s.film = (int) Math.max(0, Math.min(99, s.film - less));
                env.put("film", s.film);
                if (s.film == 0 || told.bursts != null && told.bursts.value(env) == 1) {
                    burst++;
                    w.soaps.remove(s);
                    w.kept.add(new int[] {w.second, s.number, heir, s.deeds.size()});
                    for (int d : s.deeds) {
                        if (heir >= 0) {
                            w.owners.put(d, heir);
                        }
                    }
                } else if (w.lamp != null && w.lamp[0] == s.c && w.lamp[1] == s.r) {
                    long hue = told.hue == null ? s.film / 10 : told.hue.value(env);
                    for (int d : s.deeds) {
                        w.rent[d] = (int) Math.min(999, w.rent[d] + Math.max(0, Math.min(9, hue)));
                    }
                }
            }
            w.second++;
            return burst;
        }

        private boolean may(int n, int low, int high) {
            return told != null && n >= low && n <= high && world.second + n <= 999;
        }

        private World ahead(World w, int n) {
            for (int k = 0; k < n; k++) {
                second(w, -1);
            }
            return w;
        }

        int later(int b, int n, int what) {
            if (!isBubble(b) || !may(n, 0, 40) || what < 0 || what > 2) {
                return -1;
            }
            Soap s = ahead(world.twin(), n).soap(b);
            return s == null ? what == 2 ? 0 : -1 : what == 0 ? s.c : what == 1 ? s.r : s.film;
        }

        int goes(int b) {
            if (!isBubble(b) || world.soap(b) == null) {
                return -1;
            }
            for (int n = 1; n <= 40 && may(n, 0, 40); n++) {
                if (ahead(world.twin(), n).soap(b) == null) {
                    return n - 1;
                }
            }
            return -1;
        }

        int owner(int d, int n) {
            return isBubble(d) && may(n, 0, 40) ? ahead(world.twin(), n).owners.getOrDefault(d, -1) : -1;
        }

        int doors(int d, int h, int n) {
            if (!isBubble(d) || !isHeir(h) || !may(n, 0, 20)) {
                return -1;
            }
            for (int many = 0; many <= told.doors.size(); many++) {
                for (int set = 0; set < 1 << told.doors.size(); set++) {
                    if (Integer.bitCount(set) == many) {
                        World w = world.twin();
                        for (int k = 0; k < told.doors.size(); k++) {
                            w.open[k] ^= (set >> k & 1) == 1;
                        }
                        if (ahead(w, n).owners.getOrDefault(d, -1) == h) {
                            return set;
                        }
                    }
                }
            }
            return -1;
        }

        int stand(int h, int n, int what) {
            if (!isHeir(h) || !may(n, 1, 20) || what < 0 || what > 2) {
                return -1;
            }
            int[] best = {-1, -1, -1};
            for (int r = 0; r < told.rows; r++) {
                for (int c = 0; c < told.columns; c++) {
                    int who = heirAt(world, c, r);
                    if (who == -1 || who == h) {
                        World w = world.twin();
                        w.heirs.set(h, new int[] {c, r});
                        int many = 0;
                        for (int o : ahead(w, n).owners.values()) {
                            many += o == h ? 1 : 0;
                        }
                        if (many > best[2]) {
                            best = new int[] {c, r, many};
                        }
                    }
                }
            }
            return best[what];
        }

        int shine(int n, int what) {
            if (told == null || !may(n, 1, 20) || what < 0 || what > 2) {
                return -1;
            }
            int[] best = {-1, -1, -1};
            for (int r = 0; r < told.rows; r++) {
                for (int c = 0; c < told.columns; c++) {
                    World w = world.twin();
                    w.lamp = new int[] {c, r};
                    int all = Arrays.stream(ahead(w, n).rent).sum();
                    if (all > best[2]) {
                        best = new int[] {c, r, all};
                    }
                }
            }
            return best[what];
        }

        int lasts(int b, int n) {
            if (!isBubble(b) || world.soap(b) == null || !may(n, 1, 20)) {
                return -1;
            }
            for (int film = 1; film < 100; film++) {
                World w = world.twin();
                w.soap(b).film = film;
                if (ahead(w, n).soap(b) != null) {
                    return film;
                }
            }
            return -1;
        }

        int odds(int d, int h) {
            if (!isBubble(d) || !isHeir(h) || !may(1, 1, 1)) {
                return -1;
            }
            int rows = 0;
            for (int number = 0; number < 100; number++) {
                for (int way = 0; way < 4; way++) {
                    World w = world.twin();
                    second(w, number < told.breath ? way : -1);
                    rows += w.owners.getOrDefault(d, -1) == h ? 1 : 0;
                }
            }
            return rows;
        }

        int feel() {
            int[] t = takeTape();
            List<int[]> rows = new ArrayList<>();
            boolean good = t.length >= 4 && t.length <= 64 && t.length % 4 == 0;
            for (int k = 0; good && k < t.length; k += 4) {
                boolean gone = t[k + 2] == 255 && t[k + 3] == 255;
                good = t[k] <= 30 && isBubble(t[k + 1]) && (gone || isCell(t[k + 2], t[k + 3]));
                rows.add(Arrays.copyOfRange(t, k, k + 4));
            }
            if (!good) {
                refused[5]++;
                return -1;
            }
            felt = rows;
            return rows.size();
        }

        private List<int[]> froms(int b) {
            List<int[]> cells = new ArrayList<>();
            for (int r = 0; r < told.rows; r++) {
                for (int c = 0; c < told.columns; c++) {
                    boolean so = true;
                    for (int[] row : felt == null ? new ArrayList<int[]>() : felt) {
                        so = so && may(row[0], 0, 30) && isSo(b, c, r, row);
                    }
                    if (so) {
                        cells.add(new int[] {c, r});
                    }
                }
            }
            return cells;
        }

        private Soap placed(int b, int c, int r, int n, int which) {
            World w = world.twin();
            w.soap(b).c = c;
            w.soap(b).r = r;
            return ahead(w, n).soap(which);
        }

        private boolean isSo(int b, int c, int r, int[] row) {
            Soap s = placed(b, c, r, row[0], row[1]);
            return s == null ? row[2] == 255 && row[3] == 255 : s.c == row[2] && s.r == row[3];
        }

        int from(int b, int k) {
            if (!isBubble(b) || world.soap(b) == null) {
                return -1;
            }
            List<int[]> cells = froms(b);
            return k == -1 ? cells.size() : k >= 0 && k < cells.size() ? 8 * cells.get(k)[1] + cells.get(k)[0] : -1;
        }

        int tells(int b, int what) {
            if (!isBubble(b) || world.soap(b) == null || what < 0 || what > 1) {
                return -1;
            }
            List<int[]> cells = froms(b);
            int best = Integer.MAX_VALUE;
            int at = -1;
            for (int n = 1; n <= 30 && may(n, 1, 30) && !cells.isEmpty(); n++) {
                Map<String, Integer> groups = new HashMap<>();
                for (int[] cell : cells) {
                    Soap s = placed(b, cell[0], cell[1], n, b);
                    groups.merge(s == null ? "gone" : s.c + "," + s.r, 1, Integer::sum);
                }
                int most = groups.values().stream().max(Integer::compare).get();
                if (most < best) {
                    best = most;
                    at = n;
                }
            }
            return at == -1 ? -1 : what == 0 ? at : best;
        }

        private void act() {
            past.add(world.twin());
            if (past.size() > 20) {
                past.remove(0);
            }
        }

        int seconds(int n) {
            if (!may(n, 1, 40)) {
                refused[2]++;
                return -1;
            }
            act();
            int burst = 0;
            for (int k = 0; k < n; k++) {
                burst += second(world, -1);
            }
            return burst;
        }

        private int draw(int m) {
            seed = (seed * 1103515245L + 12345L) % 2147483648L;
            return (int) (seed / 64 % m);
        }

        int chance(int n) {
            if (!may(n, 1, 40)) {
                refused[2]++;
                return -1;
            }
            act();
            int breaths = 0;
            for (int k = 0; k < n; k++) {
                int way = -1;
                if (draw(100) < told.breath) {
                    breaths++;
                    way = draw(4);
                }
                second(world, way);
            }
            return breaths;
        }

        private boolean refuse(int what) {
            refused[what]++;
            return false;
        }

        boolean swing(int d, int on) {
            if (!isDoor(d) || on != 0 && on != 1 || world.open[d] == (on == 1)) {
                return refuse(3);
            }
            act();
            world.open[d] = on == 1;
            return true;
        }

        boolean tiptoe(int h, int way) {
            if (!isHeir(h) || way < 0 || way > 3) {
                return refuse(3);
            }
            int c = world.heirs.get(h)[0] + STEP[way][0];
            int r = world.heirs.get(h)[1] + STEP[way][1];
            if (!isCell(c, r) || heirAt(world, c, r) != -1) {
                return refuse(3);
            }
            act();
            world.heirs.set(h, new int[] {c, r});
            return true;
        }

        boolean carry(int c, int r) {
            if (!isCell(c, r) || world.lamp != null && world.lamp[0] == c && world.lamp[1] == r) {
                return refuse(3);
            }
            act();
            world.lamp = new int[] {c, r};
            return true;
        }

        boolean undo() {
            if (past.isEmpty()) {
                return refuse(4);
            }
            world = past.remove(past.size() - 1);
            return true;
        }

        boolean seed(int s) {
            if (s < 0) {
                return refuse(5);
            }
            seed = s;
            return true;
        }

        int kept(int k, int what) {
            if (told == null || k < 0 || what < 0 || what > 3) {
                return -1;
            }
            List<int[]> last = world.kept.subList(Math.max(0, world.kept.size() - 40), world.kept.size());
            return k < last.size() ? last.get(k)[what] : -1;
        }

        int image() {
            List<Integer> out = new ArrayList<>();
            int second = told == null ? 0 : world.second;
            out.add(second >> 8);
            out.add(second & 255);
            boolean lit = told != null && world.lamp != null;
            out.add(lit ? world.lamp[0] : 255);
            out.add(lit ? world.lamp[1] : 255);
            for (int k = 0; isDoor(k); k++) {
                out.add(world.open[k] ? 1 : 0);
            }
            for (int k = 0; isHeir(k); k++) {
                out.add(world.heirs.get(k)[0]);
                out.add(world.heirs.get(k)[1]);
            }
            for (int k = 0; isBubble(k); k++) {
                for (int what = 0; what < 5; what++) {
                    out.add(bubble(k, what) & 255);
                }
            }
            for (int k = 0; isBubble(k); k++) {
                out.add(deed(k, 0) & 255);
                out.add(world.rent[k] >> 8);
                out.add(world.rent[k] & 255);
            }
            int c = 197;
            for (int b : out) {
                c = (5 * c + b) % 251;
            }
            out.add(c);
            image = out;
            return out.size();
        }

        int octet(int k) {
            return k >= 0 && k < image.size() ? image.get(k) : -1;
        }

        boolean on() {
            int[] t = takeTape();
            World w = told == null ? null : worldOf(t);
            if (w == null) {
                return refuse(5);
            }
            world = w;
            past.clear();
            return true;
        }

        private World worldOf(int[] t) {
            int nd = told.doors.size();
            int nh = told.heirs.size();
            int nb = told.bubbles.size();
            if (t.length != 4 + nd + 2 * nh + 5 * nb + 3 * nb + 1) {
                return null;
            }
            int check = 197;
            for (int k = 0; k + 1 < t.length; k++) {
                check = (5 * check + t[k]) % 251;
            }
            World w = new World();
            w.second = 256 * t[0] + t[1];
            boolean dark = t[2] == 255 && t[3] == 255;
            if (check != t[t.length - 1] || w.second > 999 || !dark && !isCell(t[2], t[3])) {
                return null;
            }
            w.lamp = dark ? null : new int[] {t[2], t[3]};
            w.open = new boolean[nd];
            int p = 4;
            for (int k = 0; k < nd; k++, p++) {
                if (t[p] > 1) {
                    return null;
                }
                w.open[k] = t[p] == 1;
            }
            for (int k = 0; k < nh; k++, p += 2) {
                if (!isCell(t[p], t[p + 1]) || heirAt(w, t[p], t[p + 1]) != -1) {
                    return null;
                }
                w.heirs.add(new int[] {t[p], t[p + 1]});
            }
            Set<Integer> afloat = new HashSet<>();
            Set<String> cells = new HashSet<>();
            for (int k = 0; k < nb; k++, p += 5) {
                if (t[p] == 255 && t[p + 1] == 255) {
                    if (t[p + 2] + t[p + 3] + t[p + 4] != 0) {
                        return null;
                    }
                    continue;
                }
                Soap s = new Soap();
                s.number = k;
                s.c = t[p];
                s.r = t[p + 1];
                s.film = t[p + 2];
                s.size = t[p + 3];
                for (int d = 0; d < 8; d++) {
                    if ((t[p + 4] >> d & 1) == 1 && (d >= nb || !afloat.add(d) || !s.deeds.add(d))) {
                        return null;
                    }
                }
                boolean good = isCell(s.c, s.r) && cells.add(s.c + "," + s.r) && s.film >= 1 && s.film <= 99
                    && s.size >= 1 && s.size <= 9 && !s.deeds.isEmpty();
                if (!good) {
                    return null;
                }
                w.soaps.add(s);
            }
            w.rent = new int[nb];
            for (int k = 0; k < nb; k++, p += 3) {
                w.rent[k] = 256 * t[p + 1] + t[p + 2];
                boolean nobody = t[p] == 255;
                if (w.rent[k] > 999 || !nobody && (t[p] >= nh || afloat.contains(k))) {
                    return null;
                }
                if (!nobody) {
                    w.owners.put(k, t[p]);
                }
            }
            return w;
        }

        int status(int what) {
            return what >= 0 && what < 6 ? refused[what] : -1;
        }
    }
}
