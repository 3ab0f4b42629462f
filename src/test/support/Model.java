import java.util.ArrayList;
import java.util.Arrays;
import java.util.HashMap;
import java.util.HashSet;
import java.util.List;
import java.util.Map;
import java.util.Set;

/**
 * The document once more, in the slowest and plainest way (all orders, all hangings, COLD moved step by step),
 * to be compared with DewBaron by AgainstModelTest.
 */
final class Model {
    static final int NONE = -1;
    static final int NOTHING = -1000000000;

    static final class Fault extends RuntimeException {
        private static final long serialVersionUID = 1L;

        final int kind;
        final int place;

        Fault(int kind, int place) {
            super(null, null, false, false);
            this.kind = kind;
            this.place = place;
        }
    }

    static final Set<String> OWN = Set.of("island", "height", "at", "wall", "house", "cistern", "cloth", "takes",
        "stone", "web", "sky", "dew", "dries", "drinks", "cloudy", "wring", "open", "high", "cold", "hour", "cloud",
        "wind", "smoke", "near", "wet", "min", "max");

    /** Fields named as the document names what they hold. */
    static final class Isle {
        int wide;
        int high;
        Map<Integer, Integer> heights = new HashMap<>();
        Set<Integer> walls = new HashSet<>();
        Set<Integer> houses = new HashSet<>();
        List<Integer> cisterns = new ArrayList<>();
        List<String> cisternNames = new ArrayList<>();
        List<int[]> things = new ArrayList<>(); // cell, takes, sort
        List<Integer> cloths = new ArrayList<>();
        List<String> clothNames = new ArrayList<>();
        String sky = "";
        String dew = null;
        String dries = null;
        int drinks = 0;
        int cloudy = 0;
        int wring = 5;
        int statements = 0;

        boolean free(int cell) {
            for (int[] thing : things) {
                if (thing[0] == cell) {
                    return false;
                }
            }
            return !walls.contains(cell) && !houses.contains(cell) && !cisterns.contains(cell);
        }
    }

    /** Reads a text byte by byte; SUMS are kept as their text, and read anew whenever they are reckoned. */
    static final class Text {
        final String s;
        int at = 0;
        final Isle isle = new Isle();
        int number;
        int numberAt;

        Text(String s) {
            this.s = s;
        }

        char now() {
            return at < s.length() ? s.charAt(at) : (char) 0;
        }

        static boolean letter(char c) {
            return c >= 'a' && c <= 'z';
        }

        static boolean digit(char c) {
            return c >= '0' && c <= '9';
        }

        void blanks() {
            while (at < s.length() && (now() == ' ' || now() == '\n')) {
                at++;
            }
        }

        /** The word or number that begins here; faults of its length, or for want of a blank, included. */
        String peek() {
            blanks();
            if (at == s.length()) {
                return "";
            }
            char c = now();
            if (!letter(c) && !digit(c)) {
                return "" + c;
            }
            if (at > 0 && (letter(c) && digit(s.charAt(at - 1)) || digit(c) && letter(s.charAt(at - 1)))) {
                throw new Fault(1, at);
            }
            int end = at;
            while (end < s.length() && (letter(c) ? letter(s.charAt(end)) : digit(s.charAt(end)))) {
                end++;
            }
            String token = s.substring(at, end);
            if (digit(c) && token.length() > 4) {
                throw new Fault(1, at + 4);
            }
            if (letter(c) && token.length() > 6 && !OWN.contains(token)) {
                throw new Fault(1, at + 6);
            }
            return token;
        }

        void expect(String token) {
            if (!peek().equals(token)) {
                throw new Fault(1, at);
            }
            at += token.length();
        }

        int number(int low, int high) {
            String token = peek();
            if (token.isEmpty() || !digit(token.charAt(0))) {
                throw new Fault(1, at);
            }
            number = Integer.parseInt(token);
            numberAt = at;
            if (number < low || number > high) {
                throw new Fault(4, at);
            }
            at += token.length();
            return number;
        }

        String name() {
            String token = peek();
            if (token.isEmpty() || !letter(token.charAt(0)) || OWN.contains(token)) {
                throw new Fault(1, at);
            }
            if (isle.cisternNames.contains(token) || isle.clothNames.contains(token)) {
                throw new Fault(2, at);
            }
            at += token.length();
            return token;
        }

        int spot(boolean free) {
            expect("at");
            int across = number(0, isle.wide - 1);
            int cell = number(0, isle.high - 1) * isle.wide + across;
            if (free && !isle.free(cell)) {
                throw new Fault(4, numberAt);
            }
            return cell;
        }

        Isle read() {
            expect("island");
            isle.wide = number(2, 7);
            isle.high = number(2, 6);
            expect(";");
            isle.statements = 1;
            blanks();
            while (at < s.length()) {
                if (isle.statements == 80) {
                    throw new Fault(6, at);
                }
                statement();
                expect(";");
                isle.statements++;
                blanks();
            }
            return isle;
        }

        void most(int have, int most) {
            if (have >= most) {
                throw new Fault(6, at);
            }
        }

        void statement() {
            String word = peek();
            switch (word) {
                case "height": {
                    at += 6;
                    int n = number(0, 9);
                    isle.heights.put(spot(false), n);
                    break;
                }
                case "wall":
                    most(isle.walls.size(), 12);
                    at += 4;
                    isle.walls.add(spot(true));
                    break;
                case "house":
                    most(isle.houses.size(), 6);
                    at += 5;
                    isle.houses.add(spot(true));
                    break;
                case "cistern": {
                    most(isle.cisterns.size(), 5);
                    at += 7;
                    String name = name();
                    isle.cisterns.add(spot(true));
                    isle.cisternNames.add(name);
                    break;
                }
                case "cloth":
                case "stone":
                case "web":
                    most(isle.things.size(), 10);
                    at += word.length();
                    thing(word);
                    break;
                case "sky":
                    at += 3;
                    isle.sky = letters();
                    break;
                case "dew":
                    most(isle.dew == null ? 0 : 1, 1);
                    at += 3;
                    isle.dew = sum();
                    break;
                case "dries":
                    most(isle.dries == null ? 0 : 1, 1);
                    at += 5;
                    isle.dries = sum();
                    break;
                case "drinks":
                    at += 6;
                    isle.drinks = number(0, 999);
                    break;
                case "cloudy":
                    at += 6;
                    isle.cloudy = number(0, 100);
                    break;
                case "wring":
                    at += 5;
                    isle.wring = number(1, 20);
                    break;
                default:
                    throw new Fault(1, at);
            }
        }

        void thing(String word) {
            String name = word.equals("cloth") ? name() : null;
            expect("takes");
            int takes = number(1, 9);
            int cell = spot(true);
            isle.things.add(new int[] {cell, takes, word.equals("cloth") ? 0 : word.equals("stone") ? 1 : 2});
            if (name != null) {
                isle.cloths.add(isle.things.size() - 1);
                isle.clothNames.add(name);
            }
        }

        String letters() {
            blanks();
            int from = at;
            int end = at;
            while (end < s.length() && letter(s.charAt(end))) {
                end++;
            }
            String token = s.substring(from, end);
            if (!token.matches("[cows]{1,12}")) {
                throw new Fault(1, from);
            }
            at = end;
            return token;
        }

        String sum() {
            int from = at;
            new Reckoner(this, new int[10], 0).sum();
            return s.substring(from, at);
        }
    }

    static final String[] FACTS =
        {"takes", "open", "high", "cold", "hour", "cloud", "wind", "smoke", "near", "wet"};

    /** Reads a SUM and reckons it at once. */
    static final class Reckoner {
        final Text text;
        final int[] facts;
        int open;

        Reckoner(Text text, int[] facts, int open) {
            this.text = text;
            this.facts = facts;
            this.open = open;
        }

        long sum() {
            long worth = product();
            while (true) {
                String sign = text.peek();
                if (sign.equals("+")) {
                    text.at++;
                    worth = bound(worth + product());
                } else if (sign.equals("-")) {
                    text.at++;
                    worth = bound(worth - product());
                } else {
                    return worth;
                }
            }
        }

        long product() {
            long worth = part();
            while (true) {
                String sign = text.peek();
                if (sign.equals("*")) {
                    text.at++;
                    worth = bound(worth * part());
                } else if (sign.equals("/")) {
                    text.at++;
                    long by = part();
                    worth = bound(by == 0 ? 0 : quotient(worth, by));
                } else if (sign.equals("%")) {
                    text.at++;
                    long by = part();
                    worth = bound(by == 0 ? 0 : worth - by * quotient(worth, by));
                } else {
                    return worth;
                }
            }
        }

        static long quotient(long a, long b) {
            return (long) Math.floor((double) a / (double) b);
        }

        long part() {
            String token = text.peek();
            if (!token.isEmpty() && Text.digit(token.charAt(0))) {
                text.at += token.length();
                return Integer.parseInt(token);
            }
            if (token.equals("(")) {
                open();
                long worth = sum();
                close();
                return worth;
            }
            if (token.equals("min") || token.equals("max")) {
                text.at += 3;
                open();
                long a = sum();
                text.expect(",");
                long b = sum();
                close();
                return token.equals("min") ? Math.min(a, b) : Math.max(a, b);
            }
            for (int i = 0; i < FACTS.length; i++) {
                if (FACTS[i].equals(token)) {
                    text.at += token.length();
                    return facts[i];
                }
            }
            throw new Fault(1, text.at);
        }

        void open() {
            if (!text.peek().equals("(")) {
                throw new Fault(1, text.at);
            }
            if (open == 7) {
                throw new Fault(5, text.at);
            }
            open++;
            text.at++;
        }

        void close() {
            text.expect(")");
            open--;
        }

        static long bound(long x) {
            return x > 1000000 ? 1000000 : x < -1000000 ? -1000000 : x;
        }
    }

    static int reckon(String sum, int[] facts) {
        return sum == null ? 0 : (int) new Reckoner(new Text(sum), facts, 0).sum();
    }

    /** What ACTS change, whole. */
    static final class Now {
        Set<Integer> walls = new HashSet<>();
        List<Integer> cells = new ArrayList<>();
        List<Integer> drops = new ArrayList<>();
        int nights = 0;

        Now copy() {
            Now it = new Now();
            it.walls.addAll(walls);
            it.cells.addAll(cells);
            it.drops.addAll(drops);
            it.nights = nights;
            return it;
        }
    }

    final class Night {
        final int[][] cold;
        final int[][] came;
        final int[][] dried;
        final int[][] lies;
        final int[] comes;

        Night(Now now, String sky) {
            int cells = isle.wide * isle.high;
            int things = isle.things.size();
            cold = new int[13][cells];
            came = new int[things][13];
            dried = new int[things][13];
            lies = new int[things][13];
            comes = new int[isle.cisterns.size()];
            for (int hour = 1; hour <= 12; hour++) {
                char is = hour <= sky.length() ? sky.charAt(hour - 1) : 'c';
                chill(now, hour, is);
                for (int t = 0; t < things; t++) {
                    settle(now, t, hour, is);
                }
            }
            for (int t = 0; t < things; t++) {
                int cistern = nearest(now.cells.get(t));
                if (cistern >= 0) {
                    comes[cistern] += lies[t][12];
                }
            }
        }

        void chill(Now now, int hour, char is) {
            int cells = isle.wide * isle.high;
            cold[hour] = cold[hour - 1].clone();
            for (int cell = 0; cell < cells; cell++) {
                if (is == 'c' && !now.walls.contains(cell)) {
                    cold[hour][cell]++;
                }
            }
            for (int height = 9; height >= 0; height--) {
                for (int cell = 0; cell < cells; cell++) {
                    if (heightOf(cell) == height) {
                        flow(now, hour, cell);
                    }
                }
            }
        }

        void flow(Now now, int hour, int cell) {
            int to = -1;
            for (int next : nextTo(cell)) {
                if (!now.walls.contains(next) && heightOf(next) < heightOf(cell)
                    && (to < 0 || heightOf(next) < heightOf(to))) {
                    to = next;
                }
            }
            if (to >= 0) {
                cold[hour][to] += cold[hour][cell];
                cold[hour][cell] = 0;
            }
        }

        void settle(Now now, int t, int hour, char is) {
            int cell = now.cells.get(t);
            int wet = lies[t][hour - 1];
            int[] facts = {isle.things.get(t)[1], openness(now, cell), heightOf(cell), cold[hour][cell], hour,
                is == 'o' ? 1 : 0, is == 'w' ? 1 : 0, is == 's' ? 1 : 0, near(cell), wet};
            int dew = Math.max(0, Math.min(99, reckon(isle.dew, facts)));
            came[t][hour] = dew;
            facts[9] = wet + dew;
            int dries = Math.max(0, Math.min(wet + dew, reckon(isle.dries, facts)));
            dried[t][hour] = dries;
            lies[t][hour] = wet + dew - dries;
        }
    }

    int heightOf(int cell) {
        return isle.heights.getOrDefault(cell, 0);
    }

    List<Integer> nextTo(int cell) {
        List<Integer> next = new ArrayList<>();
        if (cell >= isle.wide) {
            next.add(cell - isle.wide);
        }
        if ((cell + 1) % isle.wide != 0) {
            next.add(cell + 1);
        }
        if (cell + isle.wide < isle.wide * isle.high) {
            next.add(cell + isle.wide);
        }
        if (cell % isle.wide != 0) {
            next.add(cell - 1);
        }
        return next;
    }

    int openness(Now now, int cell) {
        int open = 8;
        for (int wall : now.walls) {
            int across = Math.abs(wall % isle.wide - cell % isle.wide);
            int down = Math.abs(wall / isle.wide - cell / isle.wide);
            if (wall != cell && across <= 1 && down <= 1) {
                open--;
            }
        }
        return open;
    }

    int near(int cell) {
        int count = 0;
        for (int next : nextTo(cell)) {
            count += isle.houses.contains(next) ? 1 : 0;
        }
        return count;
    }

    int sun(int cell) {
        int minutes = 0;
        for (int wall : now.walls) {
            minutes += wall / isle.wide == cell / isle.wide && wall > cell ? 10 : 0;
        }
        return minutes;
    }

    int nearest(int cell) {
        int best = -1;
        int least = 1000;
        for (int c = 0; c < isle.cisterns.size(); c++) {
            int to = isle.cisterns.get(c);
            int far = Math.abs(to % isle.wide - cell % isle.wide) + Math.abs(to / isle.wide - cell / isle.wide);
            if (far < least) {
                least = far;
                best = c;
            }
        }
        return best;
    }

    int contents(Now of, int cell) {
        return of.walls.contains(cell) ? 1 : isle.houses.contains(cell) ? 2 : of.cells.contains(cell) ? 3
            : isle.cisterns.contains(cell) ? 4 : 0;
    }

    boolean isCell(int cell) {
        return cell >= 0 && cell < isle.wide * isle.high;
    }

    Isle isle = new Isle();
    Now now = new Now();
    List<Now> past = new ArrayList<>();
    long seed = 1;
    StringBuilder tape = new StringBuilder();
    int fault = 0;
    int place = NONE;
    List<List<Integer>> walks = new ArrayList<>();
    List<Integer> image = new ArrayList<>();
    int[] refused = new int[6];

    int refuse(int what) {
        refused[what]++;
        return NONE;
    }

    boolean refuseFalse(int what) {
        refused[what]++;
        return false;
    }

    String takeTape() {
        String text = tape.toString();
        tape.setLength(0);
        return text;
    }

    Night told() {
        return new Night(now, isle.sky);
    }

    int feed(int a, int b, int c, int d, int e) {
        if (tape.length() + 20 > 1600) {
            return refuse(0);
        }
        for (int n : new int[] {a, b, c, d, e}) {
            for (int i = 3; i >= 0; i--) {
                tape.append((char) (n >>> 8 * i & 255));
            }
        }
        return tape.length();
    }

    boolean end(int n) {
        if (n < 0 || n > tape.length()) {
            return refuseFalse(0);
        }
        tape.setLength(n);
        return true;
    }

    int island() {
        String text = takeTape();
        try {
            isle = new Text(text).read();
        } catch (Fault it) {
            fault = it.kind;
            place = it.place;
            return refuse(1);
        }
        fault = 0;
        place = NONE;
        now = new Now();
        now.walls.addAll(isle.walls);
        for (int[] thing : isle.things) {
            now.cells.add(thing[0]);
        }
        for (int ignored : isle.cisterns) {
            now.drops.add(0);
        }
        past.clear();
        walks = new ArrayList<>();
        return isle.statements;
    }

    int fault(int what) {
        return what == 0 ? fault : what == 1 ? place : NONE;
    }

    int has(int what) {
        int[] all = {isle.wide, isle.high, now.walls.size(), isle.houses.size(), isle.cisterns.size(),
            isle.things.size(), isle.cloths.size(), isle.drinks, isle.cloudy, isle.wring, now.nights, past.size(),
            (int) seed};
        return what >= 0 && what < all.length ? all[what] : NONE;
    }

    int letter(int kind, int which, int k) {
        List<String> names = kind == 0 ? isle.cisternNames : kind == 1 ? isle.clothNames : List.of();
        if (which < 0 || which >= names.size() || k < 0 || k > 5) {
            return NONE;
        }
        return k < names.get(which).length() ? names.get(which).charAt(k) - 'a' + 1 : 0;
    }

    int cell(int cell, int what) {
        if (!isCell(cell)) {
            return NONE;
        }
        switch (what) {
            case 0:
                return heightOf(cell);
            case 1:
                return contents(now, cell);
            case 2:
                return openness(now, cell);
            case 3:
                return near(cell);
            case 4:
                return sun(cell);
            default:
                return NONE;
        }
    }

    int thing(int thing, int what) {
        if (thing < 0 || thing >= isle.things.size()) {
            return NONE;
        }
        switch (what) {
            case 0:
                return now.cells.get(thing);
            case 1:
                return isle.things.get(thing)[1];
            case 2:
                return isle.things.get(thing)[2];
            case 3:
                return nearest(now.cells.get(thing));
            case 4:
                return told().lies[thing][12];
            default:
                return NONE;
        }
    }

    int cistern(int cistern, int what) {
        if (cistern < 0 || cistern >= isle.cisterns.size()) {
            return NONE;
        }
        switch (what) {
            case 0:
                return isle.cisterns.get(cistern);
            case 1:
                return now.drops.get(cistern);
            case 2:
                return told().comes[cistern];
            case 3: {
                int count = 0;
                for (int cell : now.cells) {
                    count += nearest(cell) == cistern ? 1 : 0;
                }
                return count;
            }
            default:
                return NONE;
        }
    }

    int sky(int hour) {
        if (hour < 1 || hour > 12) {
            return NONE;
        }
        return hour <= isle.sky.length() ? "cows".indexOf(isle.sky.charAt(hour - 1)) : 0;
    }

    int cold(int cell, int hour) {
        return isCell(cell) && hour >= 0 && hour <= 12 ? told().cold[hour][cell] : NONE;
    }

    int dew(int thing, int hour, int what) {
        if (thing < 0 || thing >= isle.things.size() || hour < 1 || hour > 12 || what < 0 || what > 2) {
            return NONE;
        }
        Night night = told();
        return (what == 0 ? night.came : what == 1 ? night.dried : night.lies)[thing][hour];
    }

    int whole(int what) {
        if (isle.wide == 0) {
            return NONE;
        }
        Night night = told();
        int[] all = new int[3];
        int[] hours = new int[13];
        int most = NONE;
        for (int t = 0; t < isle.things.size(); t++) {
            for (int hour = 1; hour <= 12; hour++) {
                all[0] += night.came[t][hour];
                all[1] += night.dried[t][hour];
                hours[hour] += night.came[t][hour];
            }
            all[2] += night.lies[t][12];
            if (night.lies[t][12] > (most < 0 ? 0 : night.lies[most][12])) {
                most = t;
            }
        }
        int best = 0;
        for (int hour = 1; hour <= 12; hour++) {
            best = hours[hour] > hours[best] ? hour : best;
        }
        return what >= 0 && what < 3 ? all[what] : what == 3 ? (best == 0 ? NONE : best) : what == 4 ? most : NONE;
    }

    void act() {
        past.add(now.copy());
        if (past.size() > 20) {
            past.remove(0);
        }
    }

    boolean hang(int cloth, int cell) {
        if (cloth < 0 || cloth >= isle.cloths.size() || !isCell(cell) || contents(now, cell) != 0) {
            return refuseFalse(2);
        }
        act();
        now.cells.set(isle.cloths.get(cloth), cell);
        return true;
    }

    boolean wall(int cell, boolean is) {
        if (!isCell(cell) || contents(now, cell) != (is ? 0 : 1)) {
            return refuseFalse(2);
        }
        act();
        if (is) {
            now.walls.add(cell);
        } else {
            now.walls.remove(cell);
        }
        return true;
    }

    /** The first CISTERN that could not give is answered; all of them have what is left. */
    int pour(Now of, Night night) {
        int dry = NONE;
        for (int c = 0; c < isle.cisterns.size(); c++) {
            int have = Math.min(9999, of.drops.get(c) + night.comes[c]);
            if (have < isle.drinks && dry == NONE) {
                dry = c;
            }
            of.drops.set(c, Math.max(0, have - isle.drinks));
        }
        of.nights++;
        return dry;
    }

    int night() {
        if (isle.wide == 0 || now.nights == 9999) {
            return refuse(3);
        }
        act();
        Night night = told();
        pour(now, night);
        return Arrays.stream(night.comes).sum();
    }

    int nights(int n) {
        if (isle.wide == 0 || n < 1 || n > 40 || now.nights + n > 9999) {
            return refuse(3);
        }
        act();
        int all = 0;
        for (int i = 0; i < n; i++) {
            StringBuilder sky = new StringBuilder();
            for (int hour = 1; hour <= 12; hour++) {
                seed = (1103515245L * seed + 12345) % (1L << 31);
                sky.append(seed / 64 % 100 < isle.cloudy ? 'o' : 'c');
            }
            Night night = new Night(now, sky.toString());
            pour(now, night);
            all += Arrays.stream(night.comes).sum();
        }
        return all;
    }

    boolean undo() {
        if (past.isEmpty()) {
            return refuseFalse(4);
        }
        now = past.remove(past.size() - 1);
        return true;
    }

    boolean seed(int is) {
        if (is < 0) {
            return refuseFalse(5);
        }
        seed = is;
        return true;
    }

    int got(List<Integer> order) {
        Night night = told();
        int got = 0;
        for (int i = 0; i < order.size(); i++) {
            int thing = isle.cloths.get(order.get(i));
            int drops = night.lies[thing][12];
            for (int minute = 1; minute <= i * isle.wring; minute++) {
                if (minute > sun(now.cells.get(thing)) && drops > 0) {
                    drops--;
                }
            }
            got += drops;
        }
        return got;
    }

    /** All orders of so many, the first by their numbers first. */
    static void orders(int n, List<Integer> begun, List<List<Integer>> all) {
        if (begun.size() == n) {
            all.add(new ArrayList<>(begun));
            return;
        }
        for (int i = 0; i < n; i++) {
            if (!begun.contains(i)) {
                begun.add(i);
                orders(n, begun, all);
                begun.remove(begun.size() - 1);
            }
        }
    }

    int order(int k) {
        int n = isle.cloths.size();
        if (n > 6 || k < -1 || k >= n) {
            return NONE;
        }
        List<List<Integer>> all = new ArrayList<>();
        orders(n, new ArrayList<>(), all);
        int most = -1;
        List<Integer> best = null;
        for (List<Integer> one : all) {
            int got = got(one);
            if (got > most) {
                most = got;
                best = one;
            }
        }
        return k == -1 ? most : best.get(k);
    }

    int wrung() {
        String text = takeTape();
        List<Integer> order = new ArrayList<>();
        for (char c : text.toCharArray()) {
            if (c >= isle.cloths.size() || order.contains((int) c)) {
                return refuse(5);
            }
            order.add((int) c);
        }
        return order.size() != isle.cloths.size() ? refuse(5) : got(order);
    }

    int alike(int n, int k) {
        if (isle.cisterns.isEmpty() || n < 1 || n > 2 || n > isle.cloths.size()
            || !(k == -1 || k == 20 || k >= 0 && k < n)) {
            return NONE;
        }
        int[] best = null;
        int cells = isle.wide * isle.high;
        for (int a = 0; a < cells; a++) {
            for (int b = 0; b < (n == 2 ? cells : 1); b++) {
                if (n == 2 && a == b || !can(0, a) || n == 2 && !can(1, b)) {
                    continue;
                }
                Now hung = now.copy();
                hung.cells.set(isle.cloths.get(0), a);
                if (n == 2) {
                    hung.cells.set(isle.cloths.get(1), b);
                }
                int[] comes = new Night(hung, isle.sky).comes;
                int more = Arrays.stream(comes).max().getAsInt() - Arrays.stream(comes).min().getAsInt();
                int all = Arrays.stream(comes).sum();
                if (best == null || more < best[0] || more == best[0] && all > best[1]) {
                    best = new int[] {more, all, a, b};
                }
            }
        }
        return k == -1 ? best[0] : k == 20 ? best[1] : best[2 + k];
    }

    boolean can(int cloth, int cell) {
        return now.cells.get(isle.cloths.get(cloth)) == cell || contents(now, cell) == 0;
    }

    int linen(int drops, int what) {
        if (drops < 0 || what < 0 || what > 1) {
            return NONE;
        }
        Night night = told();
        for (int count = 0; count <= isle.cloths.size(); count++) {
            for (int bits = 0; bits < 1 << isle.cloths.size(); bits++) {
                int all = 0;
                for (int c = 0; c < isle.cloths.size(); c++) {
                    all += (bits >> c & 1) == 1 ? night.lies[isle.cloths.get(c)][12] : 0;
                }
                if (Integer.bitCount(bits) == count && all >= drops) {
                    return what == 0 ? count : bits;
                }
            }
        }
        return NONE;
    }

    /** Drops of all cloths together. */
    int linenMost() {
        int all = 0;
        for (int cloth : isle.cloths) {
            all += told().lies[cloth][12];
        }
        return all;
    }

    int down(int cell, int cistern) {
        if (!now.walls.contains(cell) || cistern < 0 || cistern >= isle.cisterns.size()) {
            return NOTHING;
        }
        Now without = now.copy();
        without.walls.remove(cell);
        return new Night(without, isle.sky).comes[cistern] - told().comes[cistern];
    }

    int best(int cistern) {
        int most = 0;
        int best = NONE;
        for (int cell = 0; cell < isle.wide * isle.high; cell++) {
            int more = down(cell, cistern);
            if (more > most) {
                most = more;
                best = cell;
            }
        }
        return best;
    }

    int votes(int cell, int what) {
        if (!now.walls.contains(cell) || what < 0 || what > 1) {
            return NONE;
        }
        int count = 0;
        for (int c = 0; c < isle.cisterns.size(); c++) {
            count += what == 0 && down(cell, c) > 0 || what == 1 && down(cell, c) < 0 ? 1 : 0;
        }
        return count;
    }

    List<List<Integer>> walksOver(List<Integer> cells) {
        List<List<Integer>> all = new ArrayList<>();
        List<Integer> sorted = new ArrayList<>(cells);
        sorted.sort(null);
        walksFrom(sorted, new ArrayList<>(), all);
        return all;
    }

    void walksFrom(List<Integer> cells, List<Integer> begun, List<List<Integer>> all) {
        if (begun.size() == cells.size()) {
            if (!begun.isEmpty()) {
                all.add(new ArrayList<>(begun));
            }
            return;
        }
        for (int cell : cells) {
            boolean can = begun.isEmpty() ? nextTo(cell).size() < 4 : nextTo(begun.get(begun.size() - 1)).contains(cell);
            if (can && !begun.contains(cell) && !now.walls.contains(cell)) {
                begun.add(cell);
                walksFrom(cells, begun, all);
                begun.remove(begun.size() - 1);
            }
        }
    }

    int walked() {
        String text = takeTape();
        List<Integer> cells = new ArrayList<>();
        for (char c : text.toCharArray()) {
            if (!isCell(c) || cells.contains((int) c)) {
                return refuse(5);
            }
            cells.add((int) c);
        }
        if (cells.size() < 2 || cells.size() > 10) {
            return refuse(5);
        }
        walks = walksOver(cells);
        return walks.size();
    }

    int walk(int k) {
        return walks.isEmpty() || k < 0 || k >= walks.get(0).size() ? NONE : walks.get(0).get(k);
    }

    int stores(int what) {
        if (what < 0 || what > 1) {
            return NONE;
        }
        Now later = now.copy();
        Night night = told();
        for (int n = 1; n <= 999; n++) {
            int dry = pour(later, night);
            if (dry != NONE) {
                return what == 0 ? n : dry;
            }
        }
        return NONE;
    }

    static int check(List<Integer> bytes) {
        int c = 79;
        for (int it : bytes) {
            c = (5 * c + it) % 251;
        }
        return c;
    }

    int image() {
        image = new ArrayList<>();
        image.add(now.nights / 256);
        image.add(now.nights % 256);
        for (int cell = 0; cell < isle.wide * isle.high; cell++) {
            image.add(now.walls.contains(cell) ? 1 : 0);
        }
        for (int cloth : isle.cloths) {
            image.add(now.cells.get(cloth));
        }
        for (int drops : now.drops) {
            image.add(drops / 256);
            image.add(drops % 256);
        }
        image.add(check(image));
        return image.size();
    }

    int octet(int k) {
        return k >= 0 && k < image.size() ? image.get(k) : NONE;
    }

    boolean on() {
        String text = takeTape();
        List<Integer> in = new ArrayList<>();
        for (char c : text.toCharArray()) {
            in.add((int) c);
        }
        int cells = isle.wide * isle.high;
        if (cells == 0 || in.size() != 3 + cells + isle.cloths.size() + 2 * isle.cisterns.size()
            || in.remove(in.size() - 1) != check(in)) {
            return refuseFalse(5);
        }
        Now is = now.copy();
        is.nights = in.remove(0) * 256 + in.remove(0);
        boolean good = is.nights <= 9999;
        is.walls.clear();
        for (int cell = 0; cell < cells; cell++) {
            int wall = in.remove(0);
            good &= wall == 0 || wall == 1;
            if (wall == 1) {
                is.walls.add(cell);
            }
        }
        for (int cloth : isle.cloths) {
            is.cells.set(cloth, in.remove(0));
        }
        for (int c = 0; c < isle.cisterns.size(); c++) {
            is.drops.set(c, in.remove(0) * 256 + in.remove(0));
            good &= is.drops.get(c) <= 9999;
        }
        Set<Integer> all = new HashSet<>();
        int many = 0;
        for (Set<Integer> some : List.of(is.walls, isle.houses)) {
            all.addAll(some);
            many += some.size();
        }
        for (List<Integer> some : List.of(is.cells, isle.cisterns)) {
            all.addAll(some);
            many += some.size();
        }
        for (int cell : all) {
            good &= isCell(cell);
        }
        if (!good || all.size() != many) {
            return refuseFalse(5);
        }
        now = is;
        past.clear();
        return true;
    }

    int status(int what) {
        return what >= 0 && what < 6 ? refused[what] : NONE;
    }
}
