import java.util.Arrays;

/** An island of dew, as ../shared/DOC.md tells it: its words in capitals are used here too. */
public final class DewBaron {
    public static final int NONE = -1;
    public static final int NOTHING = -1000000000;

    private static final int MOST_BYTES = 1600;
    private static final int MOST_CELLS = 42;
    private static final int MOST_STATEMENTS = 80;
    private static final int MOST_WALLS = 12;
    private static final int MOST_HOUSES = 6;
    private static final int MOST_CISTERNS = 5;
    private static final int MOST_THINGS = 10;
    private static final int MOST_UNDONE = 20;
    private static final int MOST_COUNTED = 9999;
    private static final int MOST_BY_SEED = 40;
    private static final int MOST_ORDERED = 6;
    private static final int MOST_TRODDEN = 10;
    private static final int MOST_STORED = 999;
    private static final int MOST_IMAGE = 65;
    private static final int NAME_LETTERS = 6;
    private static final int HOURS = 12;

    private static final int ALL_TOGETHER = 20;

    private static final int EMPTY = 0;
    private static final int WALL_IN = 1;
    private static final int HOUSE_IN = 2;
    private static final int THING_IN = 3;
    private static final int CISTERN_IN = 4;

    private static final int CLOTH_SORT = 0;
    private static final int STONE_SORT = 1;
    private static final int WEB_SORT = 2;

    private static final int CLEAR = 0;
    private static final int CLOUD = 1;
    private static final int WIND = 2;
    private static final int SMOKE = 3;

    private static final int OF_TAPE = 0;
    private static final int OF_ISLAND = 1;
    private static final int OF_HANGING = 2;
    private static final int OF_NIGHTS = 3;
    private static final int OF_UNDOING = 4;
    private static final int OF_TOLD = 5;

    private final int[] tape = new int[MOST_BYTES];
    private int bytes = 0;
    private final Reader reader = new Reader();
    private Plan plan = new Plan();
    private Plan draft = new Plan();
    private final Land now = new Land();
    private final Land other = new Land();
    private final Past past = new Past();
    private int seeded = 1;
    private final Night told = new Night();
    private final Night trial = new Night();
    private final int[] drawn = new int[HOURS + 1];
    private boolean stale = true;
    private final Wringing wringing = new Wringing();
    private final Hanging hanging = new Hanging();
    private final Meadow meadow = new Meadow();
    private final int[] written = new int[MOST_IMAGE];
    private int writtenBytes = 0;
    private final int[] refused = new int[6];

    public DewBaron() {
    }

    // ---- the tape and the text

    public int feed(int a, int b, int c, int d, int e) {
        if (bytes + 20 > MOST_BYTES) {
            return refuse(OF_TAPE);
        }
        putNumber(a);
        putNumber(b);
        putNumber(c);
        putNumber(d);
        putNumber(e);
        return bytes;
    }

    private void putNumber(int number) {
        for (int shift = 24; shift >= 0 && bytes < MOST_BYTES; shift -= 8) {
            tape[bytes] = number >> shift & 255;
            bytes++;
        }
    }

    public boolean end(int n) {
        if (n < 0 || n > bytes) {
            refuse(OF_TAPE);
            return false;
        }
        bytes = n;
        return true;
    }

    public int island() {
        boolean good = reader.read(tape, bytes, draft);
        bytes = 0;
        if (!good) {
            return refuse(OF_ISLAND);
        }
        Plan old = plan;
        plan = draft;
        draft = old;
        now.copyFrom(plan.start);
        past.forget();
        meadow.forget();
        changed();
        return reader.statements;
    }

    public int fault(int what) {
        switch (what) {
            case 0:
                return reader.fault;
            case 1:
                return reader.place;
            default:
                return NONE;
        }
    }

    // ---- what there is

    public int has(int what) {
        switch (what) {
            case 0:
                return plan.wide;
            case 1:
                return plan.high;
            case 2:
                return now.walls();
            case 3:
                return plan.houses();
            case 4:
                return plan.cisterns;
            case 5:
                return plan.things;
            case 6:
                return plan.cloths;
            case 7:
                return plan.drinks;
            case 8:
                return plan.cloudy;
            case 9:
                return plan.wring;
            case 10:
                return now.passed;
            case 11:
                return past.count;
            case 12:
                return seeded;
            default:
                return NONE;
        }
    }

    public int letter(int kind, int which, int k) {
        if (k < 0 || k >= NAME_LETTERS) {
            return NONE;
        }
        if (kind == 0 && plan.isCistern(which)) {
            return Words.letterOf(plan.cisternName[which], k);
        }
        if (kind == 1 && plan.isCloth(which)) {
            return Words.letterOf(plan.clothName[which], k);
        }
        return NONE;
    }

    public int cell(int cell, int what) {
        if (!plan.isCell(cell)) {
            return NONE;
        }
        switch (what) {
            case 0:
                return plan.height[cell];
            case 1:
                return plan.contents(now, cell);
            case 2:
                return plan.openness(now, cell);
            case 3:
                return plan.housesBy(cell);
            case 4:
                return plan.sun(now, cell);
            default:
                return NONE;
        }
    }

    public int thing(int thing, int what) {
        if (!plan.isThing(thing)) {
            return NONE;
        }
        switch (what) {
            case 0:
                return now.spot[thing];
            case 1:
                return plan.takes[thing];
            case 2:
                return plan.sort[thing];
            case 3:
                return plan.nearest(now.spot[thing]);
            case 4:
                return asTold().dawn(thing);
            default:
                return NONE;
        }
    }

    public int cistern(int cistern, int what) {
        if (!plan.isCistern(cistern)) {
            return NONE;
        }
        switch (what) {
            case 0:
                return plan.cisternCell[cistern];
            case 1:
                return now.drops[cistern];
            case 2:
                return asTold().comes[cistern];
            case 3:
                return plan.feeders(now, cistern);
            default:
                return NONE;
        }
    }

    // ---- the night as told

    public int sky(int hour) {
        return isHour(hour) ? plan.sky[hour] : NONE;
    }

    public int cold(int cell, int hour) {
        boolean known = plan.isCell(cell) && (hour == 0 || isHour(hour));
        return known ? asTold().coldIn(cell, hour) : NONE;
    }

    public int dew(int thing, int hour, int what) {
        if (!plan.isThing(thing) || !isHour(hour)) {
            return NONE;
        }
        switch (what) {
            case 0:
                return asTold().came[thing][hour];
            case 1:
                return asTold().dried[thing][hour];
            case 2:
                return asTold().lies[thing][hour];
            default:
                return NONE;
        }
    }

    public int whole(int what) {
        if (!hasIsland()) {
            return NONE;
        }
        switch (what) {
            case 0:
                return asTold().allCame(plan);
            case 1:
                return asTold().allDried(plan);
            case 2:
                return asTold().allByDawn(plan);
            case 3:
                return asTold().fullestHour(plan);
            case 4:
                return asTold().fullestThing(plan);
            default:
                return NONE;
        }
    }

    // ---- acts

    public boolean hang(int cloth, int cell) {
        if (!plan.isCloth(cloth) || !plan.isFree(now, cell)) {
            refuse(OF_HANGING);
            return false;
        }
        past.remember(now);
        now.spot[plan.cloth[cloth]] = cell;
        changed();
        return true;
    }

    public boolean wall(int cell, boolean is) {
        boolean can = is ? plan.isFree(now, cell) : now.hasWall(cell);
        if (!can || !plan.isCell(cell)) {
            refuse(OF_HANGING);
            return false;
        }
        past.remember(now);
        now.wall[cell] = is ? 1 : 0;
        changed();
        return true;
    }

    public int night() {
        if (!canPass(1)) {
            return refuse(OF_NIGHTS);
        }
        past.remember(now);
        return now.pour(plan, asTold());
    }

    public int nights(int n) {
        if (n < 1 || n > MOST_BY_SEED || !canPass(n)) {
            return refuse(OF_NIGHTS);
        }
        past.remember(now);
        int all = 0;
        for (int i = 0; i < n; i++) {
            drawSky();
            trial.pass(plan, now, drawn);
            all += now.pour(plan, trial);
        }
        return all;
    }

    public boolean undo() {
        if (past.count == 0) {
            refuse(OF_UNDOING);
            return false;
        }
        past.restore(now);
        changed();
        return true;
    }

    public boolean seed(int seed) {
        if (seed < 0) {
            refuse(OF_TOLD);
            return false;
        }
        seeded = seed;
        return true;
    }

    private boolean canPass(int n) {
        return hasIsland() && now.passed + n <= MOST_COUNTED;
    }

    private void drawSky() {
        for (int hour = 1; hour <= HOURS; hour++) {
            drawn[hour] = drawOfHundred() < plan.cloudy ? CLOUD : CLEAR;
        }
    }

    private int drawOfHundred() {
        long next = 1103515245L * seeded + 12345L;
        seeded = (int) (next & 0x7fffffffL);
        return seeded / 64 % 100;
    }

    // ---- wringing, hanging, linen

    public int order(int k) {
        if (plan.cloths > MOST_ORDERED || k < NONE || k >= plan.cloths) {
            return NONE;
        }
        wringing.prepare(plan, now, asTold());
        wringing.findOrder();
        return k == NONE ? wringing.mostGot() : wringing.wrungAt(k);
    }

    public int wrung() {
        int length = bytes;
        bytes = 0;
        if (length != plan.cloths || !unlikeBytes(length, plan.cloths)) {
            return refuse(OF_TOLD);
        }
        wringing.prepare(plan, now, asTold());
        int got = 0;
        for (int i = 0; i < length; i++) {
            got += wringing.gotFrom(tape[i], i);
        }
        return got;
    }

    public int alike(int n, int k) {
        if (n < 1 || n > 2 || n > plan.cloths || plan.cisterns == 0) {
            return NONE;
        }
        if (k != NONE && k != ALL_TOGETHER && (k < 0 || k >= n)) {
            return NONE;
        }
        hanging.find(plan, now, asTold(), n);
        if (k == NONE) {
            return hanging.bestSpread;
        }
        return k == ALL_TOGETHER ? hanging.bestAll : hanging.bestSpot(k);
    }

    public int linen(int drops, int what) {
        if (drops < 0 || what < 0 || what > 1) {
            return NONE;
        }
        wringing.prepare(plan, now, asTold());
        int bits = wringing.leastLinen(drops);
        return bits == NONE || what == 1 ? bits : Integer.bitCount(bits);
    }

    // ---- walls, walks, stores

    public int down(int cell, int cistern) {
        if (!now.hasWall(cell) || !plan.isCistern(cistern)) {
            return NOTHING;
        }
        passWithout(cell);
        return gain(asTold(), cistern);
    }

    public int best(int cistern) {
        if (!plan.isCistern(cistern)) {
            return NONE;
        }
        Night night = asTold();
        int most = 0;
        int found = NONE;
        for (int cell = 0; cell < plan.cells(); cell++) {
            if (now.hasWall(cell)) {
                passWithout(cell);
                int more = gain(night, cistern);
                found = more > most ? cell : found;
                most = Math.max(more, most);
            }
        }
        return found;
    }

    public int votes(int cell, int what) {
        if (!now.hasWall(cell) || what < 0 || what > 1) {
            return NONE;
        }
        Night night = asTold();
        passWithout(cell);
        int count = 0;
        for (int cistern = 0; cistern < plan.cisterns; cistern++) {
            int more = gain(night, cistern);
            if (what == 0 ? more > 0 : more < 0) {
                count++;
            }
        }
        return count;
    }

    public int walked() {
        int length = bytes;
        bytes = 0;
        if (length < 2 || length > MOST_TRODDEN || !unlikeBytes(length, plan.cells())) {
            return refuse(OF_TOLD);
        }
        meadow.tell(tape, length);
        // the WALKS are those of the walls of now: no later ACT changes what was told
        meadow.findWalks(plan, now);
        return meadow.walks;
    }

    public int walk(int k) {
        return meadow.firstAt(k);
    }

    public int stores(int what) {
        if (what < 0 || what > 1) {
            return NONE;
        }
        Night night = asTold();
        other.copyFrom(now);
        for (int n = 1; n <= MOST_STORED; n++) {
            int dry = other.firstTooDry(plan, night);
            if (dry != NONE) {
                return what == 0 ? n : dry;
            }
            other.pour(plan, night);
        }
        return NONE;
    }

    /** A NIGHT as told goes by on trial, without the wall of a CELL. */
    private void passWithout(int cell) {
        other.copyFrom(now);
        if (other.hasWall(cell)) {
            other.wall[cell] = 0;
        }
        trial.pass(plan, other, plan.sky);
    }

    /** How much more a CISTERN gets in the NIGHT on trial than in the one as told. */
    private int gain(Night night, int cistern) {
        return plan.isCistern(cistern) ? trial.comes[cistern] - night.comes[cistern] : 0;
    }

    // ---- images, refusals

    public int image() {
        writtenBytes = 0;
        writeTwo(now.passed);
        for (int cell = 0; cell < plan.cells(); cell++) {
            write(now.wall[cell]);
        }
        for (int cloth = 0; cloth < plan.cloths; cloth++) {
            write(now.spot[plan.cloth[cloth]]);
        }
        for (int cistern = 0; cistern < plan.cisterns; cistern++) {
            writeTwo(now.drops[cistern]);
        }
        write(checkOf(written, writtenBytes));
        return writtenBytes;
    }

    public int octet(int k) {
        return k >= 0 && k < writtenBytes ? written[k] : NONE;
    }

    public boolean on() {
        int length = bytes;
        bytes = 0;
        if (!isImage(length)) {
            refuse(OF_TOLD);
            return false;
        }
        now.passed = twoAt(0);
        for (int cell = 0; cell < plan.cells(); cell++) {
            now.wall[cell] = tape[wallAt(cell)];
        }
        for (int cloth = 0; cloth < plan.cloths; cloth++) {
            now.spot[plan.cloth[cloth]] = tape[clothAt(cloth)];
        }
        for (int cistern = 0; cistern < plan.cisterns; cistern++) {
            now.drops[cistern] = twoAt(dropsAt(cistern));
        }
        past.forget();
        changed();
        return true;
    }

    public int status(int what) {
        return what >= 0 && what < refused.length ? refused[what] : NONE;
    }

    private void writeTwo(int number) {
        write(number >> 8 & 255);
        write(number & 255);
    }

    private void write(int octet) {
        if (writtenBytes < written.length) {
            written[writtenBytes] = octet;
            writtenBytes++;
        }
    }

    private static int checkOf(int[] octets, int length) {
        int check = 79;
        for (int i = 0; i < length && i < octets.length; i++) {
            check = (5 * check + octets[i]) % 251;
        }
        return check;
    }

    private static int wallAt(int cell) {
        return 2 + cell;
    }

    private int clothAt(int cloth) {
        return wallAt(plan.cells()) + cloth;
    }

    private int dropsAt(int cistern) {
        return clothAt(plan.cloths) + 2 * cistern;
    }

    private int twoAt(int place) {
        return tape[place] * 256 + tape[place + 1];
    }

    private boolean isImage(int length) {
        int last = dropsAt(plan.cisterns);
        // without an island there is none that the tape could be an image of
        if (!hasIsland() || length != last + 1 || checkOf(tape, last) != tape[last]) {
            return false;
        }
        if (twoAt(0) > MOST_COUNTED) {
            return false;
        }
        for (int cistern = 0; cistern < plan.cisterns; cistern++) {
            if (twoAt(dropsAt(cistern)) > MOST_COUNTED) {
                return false;
            }
        }
        return wallsCanBe() && clothsCanBe();
    }

    private boolean wallsCanBe() {
        for (int cell = 0; cell < plan.cells(); cell++) {
            int is = tape[wallAt(cell)];
            if (is > 1 || is == 1 && plan.isTaken(cell)) {
                return false;
            }
        }
        return true;
    }

    private boolean clothsCanBe() {
        for (int cloth = 0; cloth < plan.cloths; cloth++) {
            int cell = tape[clothAt(cloth)];
            if (!plan.isCell(cell) || plan.isTaken(cell) || tape[wallAt(cell)] == 1) {
                return false;
            }
            for (int before = 0; before < cloth; before++) {
                if (tape[clothAt(before)] == cell) {
                    return false;
                }
            }
        }
        return true;
    }

    // ---- helpers of many calls

    private int refuse(int what) {
        if (what >= 0 && what < refused.length) {
            refused[what]++;
        }
        return NONE;
    }

    private boolean hasIsland() {
        return plan.cells() > 0;
    }

    private static boolean isHour(int hour) {
        return hour >= 1 && hour <= HOURS;
    }

    /** Whether the first bytes of the tape are all below a bound, and none is there twice. */
    private boolean unlikeBytes(int length, int bound) {
        for (int i = 0; i < length; i++) {
            if (tape[i] >= bound) {
                return false;
            }
            for (int before = 0; before < i; before++) {
                if (tape[before] == tape[i]) {
                    return false;
                }
            }
        }
        return true;
    }

    /** What is reckoned from walls and CELLS of THINGS is reckoned anew when it is asked next. */
    private void changed() {
        stale = true;
        hanging.forget();
    }

    private Night asTold() {
        if (stale) {
            told.pass(plan, now, plan.sky);
            stale = false;
        }
        return told;
    }

    private static int within(int low, int number, int high) {
        return Math.max(low, Math.min(number, high));
    }

    /** A text cut into words, numbers and signs: as far as the first word or number that is none. */
    private static final class Words {
        static final int END = 0;
        static final int NUMBER = 1;
        static final int OWN = 2;
        static final int NAME = 3;
        static final int LETTERS = 4;
        static final int SIGN = 5;
        static final int BAD = 6;

        static final int ISLAND = 0;
        static final int HEIGHT = 1;
        static final int AT = 2;
        static final int WALL = 3;
        static final int HOUSE = 4;
        static final int CISTERN = 5;
        static final int CLOTH = 6;
        static final int TAKES = 7;
        static final int STONE = 8;
        static final int WEB = 9;
        static final int SKY = 10;
        static final int DEW = 11;
        static final int DRIES = 12;
        static final int DRINKS = 13;
        static final int CLOUDY = 14;
        static final int WRING = 15;
        static final int OPEN = 16;
        static final int WET = 24;
        static final int MIN = 25;
        static final int MAX = 26;

        private static final int OWN_WORDS = 27;
        private static final String SPELLED =
            "island height at wall house cistern cloth takes stone web sky dew dries drinks cloudy wring open high cold hour cloud wind smoke near wet min max ";
        private static final int OWN_LETTERS = 7;
        private static final int DIGITS = 4;

        static final int KIND_BITS = 3;
        static final int KINDS = (1 << KIND_BITS) - 1;
        static final int PLACE_BITS = 11;
        static final int PLACES = (1 << PLACE_BITS) - 1;

        private final long[] ownKey = new long[OWN_WORDS];
        /**
         * Value, place of the first byte and kind in one number, so that an object needs one row of them alone.
         * The value: a number; which OWN WORD; a NAME; skies, two bits each; a sign; where the BAD byte is.
         */
        final long[] kept = new long[MOST_BYTES + 1];
        int count = 0;
        private int lastKind = END;
        private boolean lettersAsked = false;

        Words() {
            int word = 0;
            long key = 0;
            int letters = 0;
            for (int i = 0; i < SPELLED.length() && word < OWN_WORDS; i++) {
                char sign = SPELLED.charAt(i);
                if (sign == ' ') {
                    ownKey[word] = key << 5 * (OWN_LETTERS - letters);
                    word++;
                    key = 0;
                    letters = 0;
                } else {
                    key = key * 32 + numberOf(sign);
                    letters++;
                }
            }
        }

        /** Letter k of a NAME by its value: five bits each, the first letter highest. */
        static int letterOf(int name, int k) {
            return k >= 0 && k < NAME_LETTERS ? name >> 5 * (NAME_LETTERS - 1 - k) & 31 : 0;
        }

        void cut(int[] text, int length) {
            count = 0;
            lastKind = END;
            lettersAsked = false;
            int at = 0;
            for (int step = 0; step < length && at < length && lastKind != BAD; step++) {
                at = isBlank(text[at]) ? at + 1 : cutOne(text, length, at);
            }
            if (lastKind != BAD) {
                put(END, length, length);
            }
        }

        private int cutOne(int[] text, int length, int at) {
            boolean letters = isLetter(text[at]);
            boolean digits = isDigit(text[at]);
            int end = at + 1;
            while (end < length && (letters && isLetter(text[end]) || digits && isDigit(text[end]))) {
                end++;
            }
            boolean joined = at > 0 && (letters && isDigit(text[at - 1]) || digits && isLetter(text[at - 1]));
            if (joined) {
                put(BAD, at, at);
            } else if (lettersAsked && (letters || digits)) {
                putLetters(text, at, end);
            } else if (letters) {
                putWord(text, at, end);
            } else if (digits) {
                putNumber(text, at, end);
            } else {
                put(SIGN, at, text[at]);
            }
            return end;
        }

        private void putLetters(int[] text, int at, int end) {
            int skies = 0;
            boolean good = end - at <= HOURS;
            for (int i = at; i < end && good; i++) {
                int sky = skyOf(text[i]);
                good = sky != NONE;
                skies |= sky << 2 * (i - at);
            }
            put(good ? LETTERS : BAD, at, good ? skies : at);
        }

        private void putWord(int[] text, int at, int end) {
            long key = 0;
            for (int i = 0; i < OWN_LETTERS; i++) {
                key = key * 32 + (at + i < end ? numberOf(text[at + i]) : 0);
            }
            int own = end - at <= OWN_LETTERS ? ownWord(key) : NONE;
            if (own != NONE) {
                put(OWN, at, own);
            } else if (end - at <= NAME_LETTERS) {
                put(NAME, at, (int) (key >> 5));
            } else {
                put(BAD, at, at + NAME_LETTERS);
            }
        }

        private void putNumber(int[] text, int at, int end) {
            if (end - at > DIGITS) {
                put(BAD, at, at + DIGITS);
                return;
            }
            int number = 0;
            for (int i = at; i < end; i++) {
                number = number * 10 + text[i] - '0';
            }
            put(NUMBER, at, number);
        }

        private void put(int kind, int first, int value) {
            if (count < kept.length) {
                kept[count] = ((long) value << PLACE_BITS | first) << KIND_BITS | kind;
                count++;
            }
            lastKind = kind;
            lettersAsked = kind == OWN && value == SKY;
        }

        private int ownWord(long key) {
            for (int i = 0; i < OWN_WORDS; i++) {
                if (ownKey[i] == key) {
                    return i;
                }
            }
            return NONE;
        }

        private static int skyOf(int octet) {
            switch (octet) {
                case 'c':
                    return CLEAR;
                case 'o':
                    return CLOUD;
                case 'w':
                    return WIND;
                case 's':
                    return SMOKE;
                default:
                    return NONE;
            }
        }

        private static int numberOf(int letter) {
            return letter - 'a' + 1;
        }

        private static boolean isLetter(int octet) {
            return octet >= 'a' && octet <= 'z';
        }

        private static boolean isDigit(int octet) {
            return octet >= '0' && octet <= '9';
        }

        private static boolean isBlank(int octet) {
            return octet == 32 || octet == 10;
        }
    }

    /** Reads the text of an ISLAND into a Plan, as far as its first FAULT. */
    private static final class Reader {
        private static final int WRONG = 1;
        private static final int TWICE = 2;
        private static final int CANNOT_BE = 4;
        private static final int TOO_DEEP = 5;
        private static final int TOO_MANY = 6;
        private static final int MOST_OPEN = 7;

        private final Words words = new Words();
        private int at = 0;
        private int kind = Words.END;
        private int first = 0;
        private int value = 0;
        private int number = 0;
        private int numberFirst = 0;
        private int name = 0;
        private int spot = 0;
        int fault = 0;
        int place = NONE;
        int statements = 0;

        boolean read(int[] text, int length, Plan plan) {
            words.cut(text, length);
            plan.clear();
            fault = 0;
            place = NONE;
            statements = 0;
            goTo(0);
            boolean good = size(plan) && close();
            for (int i = 0; i <= MOST_STATEMENTS && good && kind != Words.END; i++) {
                good = statement(plan) && close();
            }
            return good;
        }

        private boolean size(Plan plan) {
            if (!word(Words.ISLAND) || !number(2, 7)) {
                return false;
            }
            int wide = number;
            if (!number(2, 6)) {
                return false;
            }
            plan.spread(wide, number);
            return true;
        }

        /** The sign behind each STATEMENT, by which it is counted. */
        private boolean close() {
            statements++;
            return sign(';');
        }

        private boolean statement(Plan plan) {
            int own = kind == Words.OWN ? value : NONE;
            if (statements >= MOST_STATEMENTS || isOneTooMany(plan, own)) {
                return refuse(TOO_MANY, first);
            }
            switch (own) {
                case Words.HEIGHT:
                    return word(own) && height(plan);
                case Words.WALL:
                    return word(own) && wallOf(plan);
                case Words.HOUSE:
                    return word(own) && house(plan);
                case Words.CISTERN:
                    return word(own) && cisternOf(plan);
                case Words.CLOTH:
                    return word(own) && name(plan) && thingOf(plan, CLOTH_SORT);
                case Words.STONE:
                    return word(own) && thingOf(plan, STONE_SORT);
                case Words.WEB:
                    return word(own) && thingOf(plan, WEB_SORT);
                case Words.SKY:
                    return word(own) && letters(plan);
                case Words.DEW:
                    return word(own) && plan.sums.begin(Sums.DEW) && sum(plan.sums, 0);
                case Words.DRIES:
                    return word(own) && plan.sums.begin(Sums.DRIES) && sum(plan.sums, 0);
                case Words.DRINKS:
                    return word(own) && drinks(plan);
                case Words.CLOUDY:
                    return word(own) && cloudy(plan);
                case Words.WRING:
                    return word(own) && wring(plan);
                default:
                    return unexpected();
            }
        }

        private static boolean isOneTooMany(Plan plan, int own) {
            switch (own) {
                case Words.WALL:
                    return plan.start.walls() >= MOST_WALLS;
                case Words.HOUSE:
                    return plan.houses() >= MOST_HOUSES;
                case Words.CISTERN:
                    return plan.cisterns >= MOST_CISTERNS;
                case Words.CLOTH:
                case Words.STONE:
                case Words.WEB:
                    return plan.things >= MOST_THINGS;
                case Words.DEW:
                    return plan.sums.isTold(Sums.DEW);
                case Words.DRIES:
                    return plan.sums.isTold(Sums.DRIES);
                default:
                    return false;
            }
        }

        private boolean height(Plan plan) {
            if (!number(0, 9)) {
                return false;
            }
            int height = number;
            if (!spot(plan, false)) {
                return false;
            }
            plan.height[spot] = height;
            return true;
        }

        private boolean wallOf(Plan plan) {
            if (!spot(plan, true)) {
                return false;
            }
            plan.start.wall[spot] = 1;
            return true;
        }

        private boolean house(Plan plan) {
            if (!spot(plan, true)) {
                return false;
            }
            plan.house[spot] = 1;
            return true;
        }

        private boolean cisternOf(Plan plan) {
            if (!name(plan) || !spot(plan, true)) {
                return false;
            }
            plan.addCistern(name, spot);
            return true;
        }

        private boolean thingOf(Plan plan, int sort) {
            if (!word(Words.TAKES) || !number(1, 9)) {
                return false;
            }
            int takes = number;
            if (!spot(plan, true)) {
                return false;
            }
            plan.addThing(sort, takes, spot);
            if (sort == CLOTH_SORT) {
                plan.addCloth(name);
            }
            return true;
        }

        private boolean letters(Plan plan) {
            if (kind != Words.LETTERS) {
                return unexpected();
            }
            for (int hour = 1; hour <= HOURS; hour++) {
                plan.sky[hour] = value >> 2 * (hour - 1) & 3;
            }
            return goTo(at + 1);
        }

        private boolean drinks(Plan plan) {
            boolean good = number(0, 999);
            plan.drinks = number;
            return good;
        }

        private boolean cloudy(Plan plan) {
            boolean good = number(0, 100);
            plan.cloudy = number;
            return good;
        }

        private boolean wring(Plan plan) {
            boolean good = number(1, 20);
            plan.wring = number;
            return good;
        }

        /** The depth of this recursion is bounded by open: how many ( are open. */
        private boolean sum(Sums sums, int open) {
            boolean good = product(sums, open);
            for (int i = 0; i < MOST_BYTES && good && isSign('+', '-', '-'); i++) {
                int sign = value;
                good = goTo(at + 1) && product(sums, open) && sums.add(-sign);
            }
            return good;
        }

        private boolean product(Sums sums, int open) {
            boolean good = part(sums, open);
            for (int i = 0; i < MOST_BYTES && good && isSign('*', '/', '%'); i++) {
                int sign = value;
                good = goTo(at + 1) && part(sums, open) && sums.add(-sign);
            }
            return good;
        }

        private boolean part(Sums sums, int open) {
            int own = kind == Words.OWN ? value : NONE;
            if (kind == Words.NUMBER) {
                return sums.add(value) && goTo(at + 1);
            }
            if (own == Words.TAKES) {
                return sums.add(Sums.codeOf(Sums.TAKES)) && goTo(at + 1);
            }
            // these facts are numbered as their OWN WORDS are
            if (own >= Words.OPEN && own <= Words.WET) {
                return sums.add(Sums.codeOf(own - Words.OPEN)) && goTo(at + 1);
            }
            boolean two = own == Words.MIN || own == Words.MAX;
            if (two) {
                goTo(at + 1);
            }
            if (kind != Words.SIGN || value != '(') {
                return unexpected();
            }
            if (open >= MOST_OPEN) {
                return refuse(TOO_DEEP, first);
            }
            boolean good = goTo(at + 1) && sum(sums, open + 1);
            if (two) {
                good = good && sign(',') && sum(sums, open + 1)
                    && sums.add(own == Words.MIN ? Sums.LESSER : Sums.GREATER);
            }
            return good && sign(')');
        }

        private boolean isSign(char one, char two, char three) {
            return kind == Words.SIGN && (value == one || value == two || value == three);
        }

        private boolean sign(char sign) {
            return kind == Words.SIGN && value == sign ? goTo(at + 1) : unexpected();
        }

        private boolean word(int own) {
            return kind == Words.OWN && value == own ? goTo(at + 1) : unexpected();
        }

        private boolean goTo(int token) {
            boolean is = token >= 0 && token < words.count;
            long found = is ? words.kept[token] : Words.END;
            at = token;
            kind = (int) found & Words.KINDS;
            first = (int) (found >> Words.KIND_BITS) & Words.PLACES;
            value = (int) (found >> Words.KIND_BITS + Words.PLACE_BITS);
            return true;
        }

        private boolean number(int low, int high) {
            if (kind != Words.NUMBER) {
                return unexpected();
            }
            number = value;
            numberFirst = first;
            if (number < low || number > high) {
                return refuse(CANNOT_BE, first);
            }
            return goTo(at + 1);
        }

        private boolean name(Plan plan) {
            if (kind != Words.NAME) {
                return unexpected();
            }
            name = value;
            if (plan.knows(name)) {
                return refuse(TWICE, first);
            }
            return goTo(at + 1);
        }

        private boolean spot(Plan plan, boolean free) {
            if (!word(Words.AT) || !number(0, plan.wide - 1)) {
                return false;
            }
            int across = number;
            if (!number(0, plan.high - 1)) {
                return false;
            }
            spot = plan.cellAt(across, number);
            if (!plan.isCell(spot) || free && plan.contents(plan.start, spot) != EMPTY) {
                return refuse(CANNOT_BE, numberFirst);
            }
            return true;
        }

        private boolean unexpected() {
            fault = WRONG;
            place = kind == Words.BAD ? value : first;
            return false;
        }

        private boolean refuse(int which, int where) {
            fault = which;
            place = where;
            return false;
        }
    }

    /**
     * Both SUMS of an ISLAND, each sign behind the two numbers that it joins: numbers from 0 on, all else below 0.
     * They share a row, as one text tells them both.
     */
    private static final class Sums {
        static final int DEW = 0;
        static final int DRIES = 1;
        private static final int BOTH = 2;

        static final int OPEN = 0;
        static final int HIGH = 1;
        static final int COLD = 2;
        static final int HOUR = 3;
        static final int CLOUDED = 4;
        static final int WINDY = 5;
        static final int SMOKY = 6;
        static final int NEAR = 7;
        static final int WET = 8;
        static final int TAKES = 9;
        static final int FACTS = 10;

        private static final int PLUS = -'+';
        private static final int MINUS = -'-';
        private static final int TIMES = -'*';
        private static final int OVER = -'/';
        private static final int LEFT = -'%';
        static final int LESSER = -100;
        static final int GREATER = -101;

        private static final int MOST_WAITING = 64;
        private static final int FARTHEST = 1000000;

        private final int[] code = new int[MOST_BYTES];
        private int length = 0;
        /** The SUM that is being told. */
        private int which = DEW;
        private final int[] from = new int[BOTH];
        private final int[] until = new int[BOTH];
        private final int[] waiting = new int[MOST_WAITING];

        void clear() {
            length = 0;
            Arrays.fill(from, 0);
            Arrays.fill(until, 0);
        }

        boolean begin(int sum) {
            if (sum >= 0 && sum < BOTH) {
                which = sum;
                from[sum] = length;
                until[sum] = length;
            }
            return true;
        }

        boolean isTold(int sum) {
            return sum >= 0 && sum < BOTH && until[sum] > from[sum];
        }

        static int codeOf(int fact) {
            return -1 - fact;
        }

        boolean add(int step) {
            if (length < code.length) {
                code[length] = step;
                length++;
                until[which] = length;
            }
            return true;
        }

        /** What a SUM gives; 0 if it is not told. */
        int worth(int sum, int[] facts) {
            if (!isTold(sum)) {
                return 0;
            }
            int top = 0;
            for (int i = from[sum]; i < until[sum]; i++) {
                int step = code[i];
                if (step >= -FACTS) {
                    if (top < MOST_WAITING) {
                        waiting[top] = step >= 0 ? step : factAt(facts, -1 - step);
                        top++;
                    }
                } else if (top >= 2) {
                    top--;
                    long joined = join(step, waiting[top - 1], waiting[top]);
                    waiting[top - 1] = (int) Math.max(-FARTHEST, Math.min(joined, FARTHEST));
                }
            }
            return top > 0 ? waiting[0] : 0;
        }

        private static int factAt(int[] facts, int fact) {
            return fact >= 0 && fact < facts.length ? facts[fact] : 0;
        }

        private static long join(int step, long a, long b) {
            switch (step) {
                case PLUS:
                    return a + b;
                case MINUS:
                    return a - b;
                case TIMES:
                    return a * b;
                case OVER:
                    return b == 0 ? 0 : Math.floorDiv(a, b);
                case LEFT:
                    return b == 0 ? 0 : Math.floorMod(a, b);
                case LESSER:
                    return Math.min(a, b);
                case GREATER:
                    return Math.max(a, b);
                default:
                    return 0;
            }
        }
    }

    /** What ACTS change: walls, the CELLS of THINGS, drops in CISTERNS, how many NIGHTS there were. */
    private static final class Land {
        final int[] wall = new int[MOST_CELLS];
        final int[] spot = new int[MOST_THINGS];
        final int[] drops = new int[MOST_CISTERNS];
        int passed = 0;

        void clear() {
            Arrays.fill(wall, 0);
            Arrays.fill(spot, 0);
            Arrays.fill(drops, 0);
            passed = 0;
        }

        void copyFrom(Land from) {
            System.arraycopy(from.wall, 0, wall, 0, wall.length);
            System.arraycopy(from.spot, 0, spot, 0, spot.length);
            System.arraycopy(from.drops, 0, drops, 0, drops.length);
            passed = from.passed;
        }

        boolean hasWall(int cell) {
            return cell >= 0 && cell < wall.length && wall[cell] == 1;
        }

        int walls() {
            int count = 0;
            for (int is : wall) {
                count += is;
            }
            return count;
        }

        /** A NIGHT's drops come, then it is drunk; answers how many drops came. */
        int pour(Plan plan, Night night) {
            int all = 0;
            for (int cistern = 0; cistern < plan.cisterns; cistern++) {
                all += night.comes[cistern];
                drops[cistern] = Math.max(0, filled(night, cistern) - plan.drinks);
            }
            passed++;
            return all;
        }

        /** The first CISTERN that could not give what is drunk by the next NIGHT. */
        int firstTooDry(Plan plan, Night night) {
            for (int cistern = 0; cistern < plan.cisterns; cistern++) {
                if (filled(night, cistern) < plan.drinks) {
                    return cistern;
                }
            }
            return NONE;
        }

        private int filled(Night night, int cistern) {
            return Math.min(MOST_COUNTED, drops[cistern] + night.comes[cistern]);
        }
    }

    /** How all was ahead of the last ACTS: rows that are used again, the oldest first. */
    private static final class Past {
        private final Land[] kept = new Land[MOST_UNDONE];
        private int next = 0;
        int count = 0;

        Past() {
            for (int i = 0; i < MOST_UNDONE; i++) {
                kept[i] = new Land();
            }
        }

        void forget() {
            count = 0;
        }

        void remember(Land land) {
            kept[next].copyFrom(land);
            next = (next + 1) % MOST_UNDONE;
            count = Math.min(count + 1, MOST_UNDONE);
        }

        void restore(Land land) {
            if (count > 0) {
                next = (next + MOST_UNDONE - 1) % MOST_UNDONE;
                land.copyFrom(kept[next]);
                count--;
            }
        }
    }

    /** An ISLAND as its text tells it. */
    private static final class Plan {
        /** The four sides of what is NEXT come first, in its order; then the corners. */
        private static final int[] ACROSS = {0, 1, 0, -1, 1, 1, -1, -1};
        private static final int[] DOWNWARD = {-1, 0, 1, 0, -1, 1, 1, -1};
        private static final int SIDES = 4;
        private static final int AROUND = 8;

        int wide = 0;
        int high = 0;
        /** By side and CELL: the CELL there; NONE off the island. */
        private final int[][] around = new int[AROUND][MOST_CELLS];
        final int[] height = new int[MOST_CELLS];
        final int[] house = new int[MOST_CELLS];
        final Land start = new Land();
        int cisterns = 0;
        final int[] cisternCell = new int[MOST_CISTERNS];
        final int[] cisternName = new int[MOST_CISTERNS];
        int things = 0;
        final int[] takes = new int[MOST_THINGS];
        final int[] sort = new int[MOST_THINGS];
        int cloths = 0;
        final int[] cloth = new int[MOST_THINGS];
        final int[] clothName = new int[MOST_THINGS];
        final int[] sky = new int[HOURS + 1];
        final Sums sums = new Sums();
        int drinks = 0;
        int cloudy = 0;
        int wring = 5;

        void clear() {
            wide = 0;
            high = 0;
            Arrays.fill(height, 0);
            Arrays.fill(house, 0);
            start.clear();
            cisterns = 0;
            things = 0;
            cloths = 0;
            Arrays.fill(sky, CLEAR);
            sums.clear();
            drinks = 0;
            cloudy = 0;
            wring = 5;
        }

        /** An island of this size, 42 CELLS at most. */
        void spread(int across, int down) {
            wide = across;
            high = down;
            for (int cell = 0; cell < wide * high && cell < MOST_CELLS; cell++) {
                for (int side = 0; side < AROUND; side++) {
                    around[side][cell] = cellAt(acrossOf(cell) + ACROSS[side], downOf(cell) + DOWNWARD[side]);
                }
            }
        }

        void addCistern(int name, int cell) {
            if (cisterns < MOST_CISTERNS) {
                cisternName[cisterns] = name;
                cisternCell[cisterns] = cell;
                cisterns++;
            }
        }

        void addThing(int ofSort, int taking, int cell) {
            if (things < MOST_THINGS) {
                sort[things] = ofSort;
                takes[things] = taking;
                start.spot[things] = cell;
                things++;
            }
        }

        /** The latest THING is a cloth of this NAME. */
        void addCloth(int name) {
            if (cloths < MOST_THINGS && things > 0) {
                cloth[cloths] = things - 1;
                clothName[cloths] = name;
                cloths++;
            }
        }

        boolean knows(int name) {
            for (int i = 0; i < cisterns; i++) {
                if (cisternName[i] == name) {
                    return true;
                }
            }
            for (int i = 0; i < cloths; i++) {
                if (clothName[i] == name) {
                    return true;
                }
            }
            return false;
        }

        int cells() {
            return wide * high;
        }

        boolean isCell(int cell) {
            return cell >= 0 && cell < wide * high;
        }

        boolean isThing(int thing) {
            return thing >= 0 && thing < things;
        }

        boolean isCloth(int number) {
            return number >= 0 && number < cloths;
        }

        boolean isCistern(int cistern) {
            return cistern >= 0 && cistern < cisterns;
        }

        int houses() {
            int count = 0;
            for (int is : house) {
                count += is;
            }
            return count;
        }

        int cellAt(int across, int down) {
            boolean on = across >= 0 && across < wide && down >= 0 && down < high;
            return on ? down * wide + across : NONE;
        }

        private int acrossOf(int cell) {
            return wide > 0 ? cell % wide : 0;
        }

        private int downOf(int cell) {
            return wide > 0 ? cell / wide : 0;
        }

        private int steps(int from, int to) {
            return Math.abs(acrossOf(from) - acrossOf(to)) + Math.abs(downOf(from) - downOf(to));
        }

        boolean areNext(int one, int two) {
            return isCell(one) && isCell(two) && steps(one, two) == 1;
        }

        boolean isAtEdge(int cell) {
            int across = acrossOf(cell);
            int down = downOf(cell);
            return across == 0 || across == wide - 1 || down == 0 || down == high - 1;
        }

        int contents(Land land, int cell) {
            if (land.hasWall(cell)) {
                return WALL_IN;
            }
            if (!isCell(cell)) {
                return EMPTY;
            }
            if (house[cell] == 1) {
                return HOUSE_IN;
            }
            for (int thing = 0; thing < things; thing++) {
                if (land.spot[thing] == cell) {
                    return THING_IN;
                }
            }
            return hasCistern(cell) ? CISTERN_IN : EMPTY;
        }

        boolean isFree(Land land, int cell) {
            return isCell(cell) && contents(land, cell) == EMPTY;
        }

        /** Whether there is what no ACT can move: a HOUSE, a CISTERN, a stone, a web. */
        boolean isTaken(int cell) {
            if (!isCell(cell) || house[cell] == 1 || hasCistern(cell)) {
                return true;
            }
            for (int thing = 0; thing < things; thing++) {
                if (sort[thing] != CLOTH_SORT && start.spot[thing] == cell) {
                    return true;
                }
            }
            return false;
        }

        private boolean hasCistern(int cell) {
            for (int cistern = 0; cistern < cisterns; cistern++) {
                if (cisternCell[cistern] == cell) {
                    return true;
                }
            }
            return false;
        }

        int openness(Land land, int cell) {
            int open = AROUND;
            for (int side = 0; side < AROUND && isCell(cell); side++) {
                if (land.hasWall(around[side][cell])) {
                    open--;
                }
            }
            return open;
        }

        int housesBy(int cell) {
            int count = 0;
            for (int side = 0; side < SIDES && isCell(cell); side++) {
                int next = around[side][cell];
                count += isCell(next) ? house[next] : 0;
            }
            return count;
        }

        int sun(Land land, int cell) {
            int minutes = 0;
            for (int across = acrossOf(cell) + 1; across < wide; across++) {
                if (land.hasWall(cellAt(across, downOf(cell)))) {
                    minutes += 10;
                }
            }
            return minutes;
        }

        /** The CELL into which COLD flows from a CELL; NONE from a pool. */
        int lower(Land land, int cell) {
            int found = NONE;
            int least = isCell(cell) ? height[cell] : 0;
            for (int side = 0; side < SIDES && isCell(cell); side++) {
                int next = around[side][cell];
                if (isCell(next) && !land.hasWall(next) && height[next] < least) {
                    least = height[next];
                    found = next;
                }
            }
            return found;
        }

        /** The CISTERN that is nearest; NONE without CISTERNS. */
        int nearest(int cell) {
            int found = NONE;
            int least = MOST_CELLS;
            for (int cistern = 0; cistern < cisterns; cistern++) {
                int far = steps(cell, cisternCell[cistern]);
                if (far < least) {
                    least = far;
                    found = cistern;
                }
            }
            return found;
        }

        int feeders(Land land, int cistern) {
            int count = 0;
            for (int thing = 0; thing < things; thing++) {
                if (nearest(land.spot[thing]) == cistern) {
                    count++;
                }
            }
            return count;
        }
    }

    /** A NIGHT that has gone by: its COLD, its dew hour by hour, what comes BY DAWN. */
    private static final class Night {
        /** A row of its own, for a cloth that hangs somewhere on trial. */
        static final int TRIED = MOST_THINGS;
        private static final int MOST_AN_HOUR = 99;

        private final int[] sky = new int[HOURS + 1];
        private final int[] clearHours = new int[HOURS + 1];
        private final int[] lower = new int[MOST_CELLS];
        private final int[] flowing = new int[MOST_CELLS];
        private final int[] facts = new int[Sums.FACTS];
        final int[][] came = new int[MOST_THINGS + 1][HOURS + 1];
        final int[][] dried = new int[MOST_THINGS + 1][HOURS + 1];
        final int[][] lies = new int[MOST_THINGS + 1][HOURS + 1];
        final int[] comes = new int[MOST_CISTERNS];

        void pass(Plan plan, Land land, int[] skies) {
            System.arraycopy(skies, 0, sky, 0, Math.min(skies.length, sky.length));
            chill(plan, land);
            Arrays.fill(comes, 0);
            for (int thing = 0; thing < plan.things; thing++) {
                int drops = lie(plan, land, land.spot[thing], plan.takes[thing], thing);
                int cistern = plan.nearest(land.spot[thing]);
                if (plan.isCistern(cistern)) {
                    comes[cistern] += drops;
                }
            }
        }

        /**
         * By the end of each HOUR all COLD lies in pools, as each CELL that it flows to has its turn later;
         * so a pool has as much from each clear HOUR as there are CELLS that flow into it.
         */
        private void chill(Plan plan, Land land) {
            Arrays.fill(flowing, 0);
            for (int cell = 0; cell < plan.cells(); cell++) {
                lower[cell] = plan.lower(land, cell);
            }
            for (int cell = 0; cell < plan.cells(); cell++) {
                if (!land.hasWall(cell)) {
                    flowing[poolOf(cell)]++;
                }
            }
            for (int hour = 1; hour <= HOURS; hour++) {
                clearHours[hour] = clearHours[hour - 1] + (sky[hour] == CLEAR ? 1 : 0);
            }
        }

        /** Each step goes down from a height of 9 at most, so nine are the most. */
        private int poolOf(int cell) {
            int at = cell;
            for (int step = 0; step < 9 && lower[at] != NONE; step++) {
                at = lower[at];
            }
            return at;
        }

        int coldIn(int cell, int hour) {
            boolean known = cell >= 0 && cell < MOST_CELLS && hour >= 0 && hour <= HOURS;
            return known ? flowing[cell] * clearHours[hour] : 0;
        }

        /** Lets what takes so much lie in a CELL, its dew kept in a row; answers its drops by dawn. */
        int lie(Plan plan, Land land, int cell, int takes, int row) {
            if (!plan.isCell(cell) || row < 0 || row > TRIED) {
                return 0;
            }
            facts[Sums.TAKES] = takes;
            facts[Sums.OPEN] = plan.openness(land, cell);
            facts[Sums.HIGH] = plan.height[cell];
            facts[Sums.NEAR] = plan.housesBy(cell);
            int wet = 0;
            for (int hour = 1; hour <= HOURS; hour++) {
                lookUp(hour, coldIn(cell, hour));
                facts[Sums.WET] = wet;
                came[row][hour] = within(0, plan.sums.worth(Sums.DEW, facts), MOST_AN_HOUR);
                wet += came[row][hour];
                facts[Sums.WET] = wet;
                dried[row][hour] = within(0, plan.sums.worth(Sums.DRIES, facts), wet);
                wet -= dried[row][hour];
                lies[row][hour] = wet;
            }
            return wet;
        }

        private void lookUp(int hour, int cold) {
            facts[Sums.HOUR] = hour;
            facts[Sums.COLD] = cold;
            facts[Sums.CLOUDED] = sky[hour] == CLOUD ? 1 : 0;
            facts[Sums.WINDY] = sky[hour] == WIND ? 1 : 0;
            facts[Sums.SMOKY] = sky[hour] == SMOKE ? 1 : 0;
        }

        int dawn(int thing) {
            return thing >= 0 && thing < MOST_THINGS ? lies[thing][HOURS] : 0;
        }

        int allCame(Plan plan) {
            int all = 0;
            for (int hour = 1; hour <= HOURS; hour++) {
                all += cameIn(plan, hour);
            }
            return all;
        }

        int allDried(Plan plan) {
            return allCame(plan) - allByDawn(plan);
        }

        int allByDawn(Plan plan) {
            int all = 0;
            for (int thing = 0; thing < plan.things; thing++) {
                all += dawn(thing);
            }
            return all;
        }

        int fullestHour(Plan plan) {
            int most = 0;
            int found = NONE;
            for (int hour = 1; hour <= HOURS; hour++) {
                int drops = cameIn(plan, hour);
                if (drops > most) {
                    most = drops;
                    found = hour;
                }
            }
            return found;
        }

        int fullestThing(Plan plan) {
            int most = 0;
            int found = NONE;
            for (int thing = 0; thing < plan.things; thing++) {
                if (dawn(thing) > most) {
                    most = dawn(thing);
                    found = thing;
                }
            }
            return found;
        }

        private int cameIn(Plan plan, int hour) {
            int drops = 0;
            for (int thing = 0; thing < plan.things; thing++) {
                drops += came[thing][hour];
            }
            return drops;
        }
    }

    /** Cloths behind the NIGHT as told: wrung one by one, and chosen for their drops. */
    private static final class Wringing {
        private final int[] drops = new int[MOST_THINGS];
        private final int[] sun = new int[MOST_THINGS];
        private int cloths = 0;
        private int minutes = 0;
        /** By the bits of the cloths that are wrung already: the most that the others can give. */
        private final int[] most = new int[1 << MOST_ORDERED];

        void prepare(Plan plan, Land land, Night night) {
            cloths = plan.cloths;
            minutes = plan.wring;
            for (int i = 0; i < cloths; i++) {
                int thing = plan.cloth[i];
                drops[i] = night.dawn(thing);
                sun[i] = plan.sun(land, land.spot[thing]);
            }
        }

        /** Drops of a cloth for which so many others had to be wrung first. */
        int gotFrom(int cloth, int ahead) {
            if (cloth < 0 || cloth >= cloths) {
                return 0;
            }
            int lost = Math.max(0, ahead * minutes - sun[cloth]);
            return Math.max(0, drops[cloth] - lost);
        }

        void findOrder() {
            if (cloths > MOST_ORDERED) {
                return;
            }
            int all = (1 << cloths) - 1;
            most[all] = 0;
            for (int wrung = all - 1; wrung >= 0; wrung--) {
                most[wrung] = 0;
                for (int cloth = 0; cloth < cloths; cloth++) {
                    if ((wrung >> cloth & 1) == 0) {
                        most[wrung] = Math.max(most[wrung], gotBy(cloth, wrung));
                    }
                }
            }
        }

        private int gotBy(int cloth, int wrung) {
            return gotFrom(cloth, Integer.bitCount(wrung)) + most[wrung | 1 << cloth];
        }

        int mostGot() {
            return most[0];
        }

        /** The k-th cloth of THE BEST ORDER: at each place the first one by which nothing is lost. */
        int wrungAt(int k) {
            int wrung = 0;
            int next = NONE;
            for (int i = 0; i <= k && i < cloths; i++) {
                next = nextBy(wrung);
                wrung |= next == NONE ? 0 : 1 << next;
            }
            return next;
        }

        private int nextBy(int wrung) {
            for (int cloth = 0; cloth < cloths; cloth++) {
                if ((wrung >> cloth & 1) == 0 && gotBy(cloth, wrung) == most[wrung]) {
                    return cloth;
                }
            }
            return NONE;
        }

        /** The bits of the fewest cloths with so many drops; NONE when all are too few. */
        int leastLinen(int wanted) {
            int found = NONE;
            for (int bits = 0; bits < 1 << cloths; bits++) {
                boolean fewer = found == NONE || Integer.bitCount(bits) < Integer.bitCount(found);
                if (fewer && together(bits) >= wanted) {
                    found = bits;
                }
            }
            return found;
        }

        private int together(int bits) {
            int all = 0;
            for (int cloth = 0; cloth < cloths; cloth++) {
                all += (bits >> cloth & 1) * drops[cloth];
            }
            return all;
        }
    }

    /** ALIKE: the first cloths hung anew, all ways tried. */
    private static final class Hanging {
        private static final int MOST_HUNG = 2;

        /** For how many cloths the best below are found; 0 for none. */
        private int hung = 0;
        private final int[][] drops = new int[MOST_HUNG][MOST_CELLS];
        private final int[] nearest = new int[MOST_CELLS];
        private final int[] comes = new int[MOST_CISTERNS];
        private int all = 0;
        private int cisterns = 0;
        private final int[] spots = new int[MOST_HUNG];
        private final int[] bestSpots = new int[MOST_HUNG];
        int bestSpread = 0;
        int bestAll = 0;

        void forget() {
            hung = 0;
        }

        int bestSpot(int k) {
            return k >= 0 && k < MOST_HUNG ? bestSpots[k] : NONE;
        }

        void find(Plan plan, Land land, Night night, int n) {
            if (hung == n || n < 1 || n > MOST_HUNG || n > plan.cloths) {
                return;
            }
            prepare(plan, land, night, n);
            bestSpread = NONE;
            for (int cell = 0; cell < plan.cells(); cell++) {
                if (canHang(plan, land, 0, cell)) {
                    hangOn(0, cell, 1);
                    tryRest(plan, land, n);
                    hangOn(0, cell, -1);
                }
            }
            hung = n;
        }

        private void tryRest(Plan plan, Land land, int n) {
            if (n == 1) {
                judge();
                return;
            }
            for (int cell = 0; cell < plan.cells(); cell++) {
                if (cell != spots[0] && canHang(plan, land, 1, cell)) {
                    hangOn(1, cell, 1);
                    judge();
                    hangOn(1, cell, -1);
                }
            }
        }

        /** What comes without the first cloths, and what each of them would bring from each CELL. */
        private void prepare(Plan plan, Land land, Night night, int n) {
            cisterns = plan.cisterns;
            System.arraycopy(night.comes, 0, comes, 0, comes.length);
            all = night.allByDawn(plan);
            for (int cell = 0; cell < plan.cells(); cell++) {
                nearest[cell] = plan.nearest(cell);
            }
            for (int i = 0; i < n; i++) {
                int thing = plan.cloth[i];
                for (int cell = 0; cell < plan.cells(); cell++) {
                    boolean can = canHang(plan, land, i, cell);
                    drops[i][cell] = can ? night.lie(plan, land, cell, plan.takes[thing], Night.TRIED) : 0;
                }
                hangOn(i, land.spot[thing], -1);
            }
        }

        private static boolean canHang(Plan plan, Land land, int cloth, int cell) {
            return land.spot[plan.cloth[cloth]] == cell || plan.isFree(land, cell);
        }

        /** A cloth is put into a CELL (times 1), or taken from it (times -1). */
        private void hangOn(int cloth, int cell, int times) {
            int cistern = nearest[cell];
            if (cistern >= 0 && cistern < cisterns) {
                comes[cistern] += times * drops[cloth][cell];
                all += times * drops[cloth][cell];
            }
            spots[cloth] = cell;
        }

        private void judge() {
            int spread = spread();
            boolean better = bestSpread == NONE || spread < bestSpread || spread == bestSpread && all > bestAll;
            if (better) {
                bestSpread = spread;
                bestAll = all;
                System.arraycopy(spots, 0, bestSpots, 0, MOST_HUNG);
            }
        }

        private int spread() {
            int most = comes[0];
            int least = comes[0];
            for (int cistern = 1; cistern < cisterns; cistern++) {
                most = Math.max(most, comes[cistern]);
                least = Math.min(least, comes[cistern]);
            }
            return most - least;
        }
    }

    /** THE MEADOW: the CELLS that are told, and all WALKS over them, as they were when they were told. */
    private static final class Meadow {
        private final int[] trodden = new int[MOST_TRODDEN];
        private int count = 0;
        private final int[] path = new int[MOST_TRODDEN];
        private final int[] first = new int[MOST_TRODDEN];
        int walks = 0;

        void forget() {
            count = 0;
            walks = 0;
        }

        /** The CELLS are kept from the lowest to the highest, so that the first WALK is found first. */
        void tell(int[] cells, int length) {
            count = 0;
            for (int i = 0; i < length && i < MOST_TRODDEN && i < cells.length; i++) {
                int place = count;
                while (place > 0 && trodden[place - 1] > cells[i]) {
                    trodden[place] = trodden[place - 1];
                    place--;
                }
                trodden[place] = cells[i];
                count++;
            }
        }

        void findWalks(Plan plan, Land land) {
            walks = 0;
            for (int i = 0; i < count; i++) {
                if (land.hasWall(trodden[i])) {
                    return;
                }
            }
            for (int i = 0; i < count; i++) {
                if (plan.isAtEdge(trodden[i])) {
                    tread(this, plan, i, 0, 0);
                }
            }
        }

        int firstAt(int k) {
            return walks > 0 && k >= 0 && k < count ? first[k] : NONE;
        }

        /** Each level treads a further CELL, so there are as many as CELLS at most. */
        private static void tread(Meadow of, Plan plan, int which, int before, int depth) {
            if (depth >= of.count || which < 0 || which >= of.count) {
                return;
            }
            of.path[depth] = of.trodden[which];
            int done = before | 1 << which;
            if (depth + 1 == of.count) {
                of.keep();
                return;
            }
            for (int next = 0; next < of.count; next++) {
                if ((done >> next & 1) == 0 && plan.areNext(of.trodden[which], of.trodden[next])) {
                    tread(of, plan, next, done, depth + 1);
                }
            }
        }

        private void keep() {
            if (walks == 0) {
                System.arraycopy(path, 0, first, 0, MOST_TRODDEN);
            }
            walks++;
        }
    }
}
