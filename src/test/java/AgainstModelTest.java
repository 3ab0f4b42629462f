import java.util.ArrayList;
import java.util.List;
import java.util.Random;

/** Random islands, broken texts and random calls: DewBaron answers as the plain Model does. */
final class AgainstModelTest {
    private final Random random;
    private final DewBaron x = new DewBaron();
    private final Model m = new Model();
    private final StringBuilder log = new StringBuilder();

    private AgainstModelTest(long seed) {
        random = new Random(seed);
    }

    public static void main(String[] args) {
        int runs = args.length > 0 ? Integer.parseInt(args[0]) : 400;
        int from = args.length > 1 ? Integer.parseInt(args[1]) : 0;
        for (int i = from; i < from + runs; i++) {
            new AgainstModelTest(i).run();
        }
        for (int i = from; i < from + 5 * runs; i++) {
            new AgainstModelTest(i).texts();
        }
        Check.end();
    }

    private int below(int n) {
        return random.nextInt(n);
    }

    private void same(String call, long got, long want) {
        log.append(call).append(" = ").append(want).append('\n');
        Check.due(call, want, got);
        if (got != want) {
            System.out.println(log);
            System.exit(1);
        }
    }

    private void same(String call, boolean got, boolean want) {
        same(call, got ? 1 : 0, want ? 1 : 0);
    }

    // ---- texts

    private String blank() {
        return below(6) == 0 ? below(2) == 0 ? "\n" : "  " : " ";
    }

    private String sum(int depth) {
        StringBuilder s = new StringBuilder(product(depth));
        for (int i = below(3); i > 0; i--) {
            s.append(below(2) == 0 ? "+" : " - ").append(product(depth));
        }
        return s.toString();
    }

    private String product(int depth) {
        StringBuilder s = new StringBuilder(part(depth));
        for (int i = below(5) / 2; i > 0; i--) {
            s.append("*/%".charAt(below(3))).append(part(depth));
        }
        return s.toString();
    }

    private String part(int depth) {
        int which = below(depth > 0 ? 8 : 6);
        if (which < 2) {
            return "" + (below(4) == 0 ? below(10000) : below(8));
        }
        if (which < 6) {
            return Model.FACTS[below(Model.FACTS.length)];
        }
        if (which == 6) {
            return "(" + sum(depth - 1) + ")";
        }
        return (below(2) == 0 ? "min" : "max") + "(" + sum(depth - 1) + " , " + sum(depth - 1) + ")";
    }

    private String name() {
        StringBuilder s = new StringBuilder();
        for (int i = below(6); i >= 0; i--) {
            s.append((char) ('a' + below(26)));
        }
        return s.toString();
    }

    private String letters() {
        StringBuilder s = new StringBuilder();
        for (int i = below(12); i >= 0; i--) {
            s.append("cows".charAt(below(3) == 0 ? below(4) : 0));
        }
        return s.toString();
    }

    /** An ISLAND that is right in most cases; each STATEMENT but the first one may come anywhere. */
    private String text() {
        int wide = 2 + below(6);
        int high = 2 + below(5);
        List<Integer> cells = new ArrayList<>();
        for (int i = 0; i < wide * high; i++) {
            cells.add(below(cells.size() + 1), i);
        }
        List<String> all = new ArrayList<>();
        for (int i = below(wide * high); i > 0; i--) {
            all.add("height " + below(10) + spot(below(wide * high), wide));
        }
        String[] kinds = {"wall", "wall", "wall", "house", "cistern", "cistern", "cloth", "cloth", "stone", "web"};
        int[] left = {10, 6, 5, 10};
        for (int i = below(24); i > 0 && !cells.isEmpty(); i--) {
            String kind = kinds[below(kinds.length)];
            int sort = kind.equals("wall") ? 0 : kind.equals("house") ? 1 : kind.equals("cistern") ? 2 : 3;
            if (left[sort]-- > 0) {
                String named = kind.startsWith("c") ? " " + name() : "";
                String takes = sort == 3 ? " takes " + (1 + below(9)) : "";
                all.add(kind + named + takes + spot(cells.remove(0), wide));
            }
        }
        String[] settings = {"sky " + letters(), "dew " + sum(3), "dew takes+open-cloud*4+cold/3", "dries " + sum(3),
            "dries hour/3+wind*3", "drinks " + below(below(2) == 0 ? 1000 : 40), "cloudy " + below(101),
            "wring " + (1 + below(20))};
        for (int i = 0; i < settings.length; i++) {
            if (below(4) > 0 && !(i == 2 && all.contains(settings[1])) && !(i == 4 && all.contains(settings[3]))) {
                all.add(settings[i]);
            }
        }
        StringBuilder s = new StringBuilder("island ").append(wide).append(blank()).append(high).append(";");
        while (!all.isEmpty()) {
            s.append(blank()).append(all.remove(below(3) == 0 ? below(all.size()) : 0)).append(";");
        }
        return s.length() > 1600 ? "island 2 2;" : s.toString();
    }

    private String spot(int cell, int wide) {
        return " at " + cell % wide + blank() + cell / wide;
    }

    private String broken(String text) {
        StringBuilder s = new StringBuilder(text);
        String[] bits = {";", " ", "island", "dew", "(", ")", ",", "7", "0", "12345", "abcdefg", "cisterns", "min", "+",
            "x", "A", "\t", "min(", "((((((((", "wall at 0 0;", "sky", "sky cc;", "at", "takes", "cloth a takes 1", "-"};
        for (int i = 1 + below(3); i > 0; i--) {
            int at = below(s.length() + 1);
            switch (below(4)) {
                case 0:
                    s.insert(at, bits[below(bits.length)]);
                    break;
                case 1:
                    s.delete(at, Math.min(s.length(), at + 1 + below(3)));
                    break;
                case 2:
                    s.setLength(at);
                    break;
                default:
                    if (at < s.length()) {
                        s.setCharAt(at, (char) (below(3) == 0 ? below(256) : 32 + below(95)));
                    }
            }
        }
        return s.length() > 1600 ? "" : s.toString();
    }

    private void put(int... octets) {
        int[] padded = java.util.Arrays.copyOf(octets, (octets.length + 19) / 20 * 20);
        for (int i = 0; i < padded.length; i += 20) {
            int[] n = new int[5];
            for (int j = 0; j < 5; j++) {
                n[j] = Check.four(padded, i + 4 * j);
            }
            same("feed", x.feed(n[0], n[1], n[2], n[3], n[4]), m.feed(n[0], n[1], n[2], n[3], n[4]));
        }
        same("end", x.end(octets.length), m.end(octets.length));
    }

    private void tell(String text) {
        log.append("text: ").append(text).append('\n');
        same("end(0)", x.end(0), m.end(0));
        put(text.chars().toArray());
        same("island", x.island(), m.island());
        same("fault(0)", x.fault(0), m.fault(0));
        same("fault(1)", x.fault(1), m.fault(1));
    }

    private void texts() {
        for (int i = 0; i < 12; i++) {
            tell(broken(text()));
        }
    }

    // ---- calls

    private void run() {
        if (below(8) > 0) {
            tell(text());
        }
        for (int i = 0; i < 300; i++) {
            if (below(120) == 0) {
                tell(below(2) == 0 ? text() : broken(text()));
            }
            if (below(3) == 0) {
                act();
            } else if (below(3) == 0) {
                craft();
            } else {
                ask();
            }
        }
    }

    private int near(int n) {
        return below(12) == 0 ? below(2) == 0 ? random.nextInt() : n : below(n + 2) - 1;
    }

    private int cell() {
        return near(Math.max(4, m.isle.wide * m.isle.high));
    }

    private void ask() {
        int a = near(8);
        int b = near(6);
        int c = near(6);
        int cell = cell();
        int hour = near(13);
        switch (below(11)) {
            case 0:
                a = near(13);
                same("has " + a, x.has(a), m.has(a));
                break;
            case 1:
                a = near(2);
                same("letter " + a + " " + b + " " + c, x.letter(a, b, c), m.letter(a, b, c));
                break;
            case 2:
                same("cell " + cell + " " + b, x.cell(cell, b), m.cell(cell, b));
                break;
            case 3:
                same("thing " + a + " " + b, x.thing(a, b), m.thing(a, b));
                break;
            case 4:
                same("cistern " + a + " " + b, x.cistern(a, b), m.cistern(a, b));
                break;
            case 5:
                same("sky " + hour, x.sky(hour), m.sky(hour));
                break;
            case 6:
                same("cold " + cell + " " + hour, x.cold(cell, hour), m.cold(cell, hour));
                break;
            case 7:
                c = near(3);
                same("dew " + a + " " + hour + " " + c, x.dew(a, hour, c), m.dew(a, hour, c));
                break;
            case 8:
                same("whole " + b, x.whole(b), m.whole(b));
                break;
            case 9:
                same("octet " + cell, x.octet(cell), m.octet(cell));
                break;
            default:
                same("status " + b, x.status(b), m.status(b));
        }
    }

    private void act() {
        int cell = cell();
        switch (below(9)) {
            case 0:
            case 1: {
                int cloth = near(4);
                same("hang " + cloth + " " + cell, x.hang(cloth, cell), m.hang(cloth, cell));
                break;
            }
            case 2:
            case 3: {
                boolean is = below(5) > 1;
                same("wall " + cell + " " + is, x.wall(cell, is), m.wall(cell, is));
                break;
            }
            case 4:
                same("night", x.night(), m.night());
                break;
            case 5: {
                int n = near(below(4) == 0 ? 41 : 4);
                same("nights " + n, x.nights(n), m.nights(n));
                break;
            }
            case 6: {
                for (int i = below(12) == 0 ? below(25) : below(4); i >= 0; i--) {
                    same("undo", x.undo(), m.undo());
                }
                break;
            }
            case 7: {
                int seed = below(3) == 0 ? random.nextInt() : below(1000);
                same("seed " + seed, x.seed(seed), m.seed(seed));
                break;
            }
            default:
                image();
        }
    }

    private void image() {
        same("image", x.image(), m.image());
        int length = m.image.size();
        int[] octets = new int[length];
        for (int i = 0; i < length; i++) {
            octets[i] = m.octet(i);
            same("octet " + i, x.octet(i), octets[i]);
        }
        if (below(2) == 0) {
            return;
        }
        for (int i = below(4); i > 0; i--) {
            octets[below(length)] = below(3) == 0 ? below(256) : below(3) == 0 ? below(40) : below(2);
        }
        if (below(4) > 0) {
            List<Integer> ahead = new ArrayList<>();
            for (int i = 0; i + 1 < length; i++) {
                ahead.add(octets[i]);
            }
            octets[length - 1] = Model.check(ahead);
        }
        same("end(0)", x.end(0), m.end(0));
        put(below(10) == 0 ? java.util.Arrays.copyOf(octets, length + below(3) - 1) : octets);
        same("on", x.on(), m.on());
    }

    private void craft() {
        int k = near(6);
        int cell = cell();
        int cistern = near(4);
        switch (below(10)) {
            case 0:
                if (m.isle.cloths.size() < 6 || below(4) == 0) {
                    same("order " + k, x.order(k), m.order(k));
                }
                break;
            case 1:
                wrung();
                break;
            case 2: {
                int n = near(2);
                k = below(3) == 0 ? 20 : near(2);
                same("alike " + n + " " + k, x.alike(n, k), m.alike(n, k));
                break;
            }
            case 3: {
                int drops = below(12) == 0 ? random.nextInt() : below(1 + m.linenMost() + 5) - 1;
                int what = near(2);
                same("linen " + drops + " " + what, x.linen(drops, what), m.linen(drops, what));
                break;
            }
            case 4:
                same("down " + cell + " " + cistern, x.down(cell, cistern), m.down(cell, cistern));
                break;
            case 5:
                same("best " + cistern, x.best(cistern), m.best(cistern));
                break;
            case 6:
                k = near(2);
                same("votes " + cell + " " + k, x.votes(cell, k), m.votes(cell, k));
                break;
            case 7:
                walked();
                break;
            case 8:
                same("walk " + k, x.walk(k), m.walk(k));
                break;
            default:
                k = near(2);
                same("stores " + k, x.stores(k), m.stores(k));
        }
    }

    private void wrung() {
        int n = m.isle.cloths.size();
        List<Integer> order = new ArrayList<>();
        for (int i = 0; i < n; i++) {
            order.add(below(order.size() + 1), i);
        }
        if (below(4) == 0) {
            order.add(below(order.size() + 1), below(n + 1));
        }
        if (below(6) == 0 && n > 0) {
            order.set(below(n), below(n + 1));
        }
        same("end(0)", x.end(0), m.end(0));
        put(order.stream().mapToInt(i -> i).toArray());
        same("wrung", x.wrung(), m.wrung());
    }

    /** A path of CELLS in a shuffled row, so that there is a WALK in many cases. */
    private void walked() {
        List<Integer> cells = new ArrayList<>();
        int cell = below(Math.max(1, m.isle.wide * m.isle.high));
        for (int i = 0; i < 2 + below(10) && m.isle.wide > 0; i++) {
            if (!cells.contains(cell)) {
                cells.add(below(cells.size() + 1), cell);
            }
            List<Integer> next = m.nextTo(cell);
            cell = next.get(below(next.size()));
        }
        if (below(8) == 0) {
            cells.add(below(44));
        }
        same("end(0)", x.end(0), m.end(0));
        put(cells.stream().mapToInt(i -> i).toArray());
        same("walked", x.walked(), m.walked());
        for (int k = 0; k < 11; k++) {
            same("walk " + k, x.walk(k), m.walk(k));
        }
    }
}
