/** Promises 15 to 20 and 31 to 34 at their edges, sentence by sentence: ACTS, the seed, images, refusals. */
final class EdgesOfActsTest {
    private static final int MIN = Integer.MIN_VALUE;
    private static final int MAX = Integer.MAX_VALUE;
    /** One CELL of each sort, two that are free. */
    private static final String SORTS = "island 3 3;wall at 0 0;house at 1 0;cistern c at 2 0;cloth a takes 1 at 0 1;"
        + "stone takes 2 at 1 1;cloth b takes 3 at 2 1;web takes 4 at 0 2;dew takes;";
    /** 108 drops come into its CISTERN by each NIGHT, seven are drunk. */
    private static final String STREAM = "island 2 2;stone takes 1 at 0 0;cistern c at 1 1;dew 9;drinks 7;";

    public static void main(String[] args) {
        hangIntoAFreeCell();
        hangOfNoCloth();
        hangLeavesAll();
        wallInAFreeCell();
        wallTakenDown();
        wallLeavesAll();
        moreWallsThanATextHas();
        nightOfDrops();
        cisternsHold9999();
        drunkOrAllThatItHas();
        nightsAreCountedTo9999();
        nightLeavesAll();
        nightsOneToForty();
        nightsWithin9999();
        nightsAreOneAct();
        aDrawBelowCloudy();
        theSeedGoesRound();
        undoOfEachAct();
        undoOfTwenty();
        undoBehindARefusal();
        undoLeavesTheSeed();
        undoOfNone();
        seedFromZero();
        imageOfAll();
        imageOfTheSmallestAndTheLargest();
        twoBytes();
        theLastByte();
        octetOfTheLatest();
        onOfAnImage();
        onOfTheEdges();
        onRefused();
        onOfWallsOnThings();
        onOfTheWrongLength();
        onLeavesAll();
        onWithoutIsland();
        statusOfEach();
        statusCountsRefusalsAlone();
        Check.end();
    }

    /** "A CELL is free, if there is no wall, HOUSE, THING, CISTERN in it." Promise 15: "or that is not free". */
    private static void hangIntoAFreeCell() {
        DewBaron x = Check.isle(SORTS);
        for (int cell = 0; cell < 7; cell++) {
            Check.due("hang 0 into " + cell, false, x.hang(0, cell));
            Check.due("hang 1 into " + cell, false, x.hang(1, cell));
        }
        Check.due("status(2)", 14, x.status(2));
        Check.due("into 7", true, x.hang(0, 7));
        Check.due("into 7, where it hangs", false, x.hang(0, 7));
        Check.due("into 7, where the other one hangs", false, x.hang(1, 7));
        Check.due("into 3, where it hung", true, x.hang(1, 3));
        Check.due("into 5, where that one hung", true, x.hang(0, 5));
        x.wall(8, true);
        Check.due("into a wall that was built", false, x.hang(0, 8));
        x.wall(8, false);
        Check.due("into the last CELL", true, x.hang(0, 8));
        x.wall(0, false);
        Check.due("into the first CELL, whose wall was taken down", true, x.hang(1, 0));
        Check.due("its CELL", 0, x.thing(2, 0));
    }

    /** Promise 15: "false, refused (2), when there are none such". */
    private static void hangOfNoCloth() {
        DewBaron x = Check.isle(SORTS);
        int[] no = {MIN, -1, 2, 3, 4, 10, MAX};
        for (int cloth : no) {
            Check.due("cloth " + cloth, false, x.hang(cloth, 7));
        }
        int[] none = {MIN, -1, 9, 10, 42, 255, MAX};
        for (int cell : none) {
            Check.due("CELL " + cell, false, x.hang(0, cell));
        }
        Check.due("status(2)", no.length + none.length, x.status(2));
        Check.due("no ACT", 0, x.has(11));
        Check.due("no cloths", false, Check.isle("island 2 2;stone takes 1 at 0 0;").hang(0, 1));
        DewBaron ten = Check.isle("island 7 6;cloth a takes 1 at 0 0;cloth b takes 1 at 1 0;cloth c takes 1 at 2 0;"
            + "cloth d takes 1 at 3 0;cloth e takes 1 at 4 0;cloth f takes 1 at 5 0;cloth g takes 1 at 6 0;"
            + "cloth h takes 1 at 0 1;cloth i takes 1 at 1 1;cloth j takes 1 at 2 1;");
        Check.due("the last of ten into the last CELL", true, ten.hang(9, 41));
        Check.due("the eleventh", false, ten.hang(10, 40));
        Check.due("CELL 42", false, ten.hang(9, 42));
    }

    private static void hangLeavesAll() {
        Twins.stays("hang(0, 3)", 2, x -> !x.hang(0, 3));
        Twins.stays("hang(0, 0)", 2, x -> !x.hang(0, 0));
        Twins.stays("hang(2, 7)", 2, x -> !x.hang(2, 7));
        Twins.stays("hang(-1, 7)", 2, x -> !x.hang(-1, 7));
        Twins.stays("hang(1, 9)", 2, x -> !x.hang(1, 9));
        Twins.stays("hang(1, -1)", 2, x -> !x.hang(1, -1));
    }

    /** Promise 16: "false, refused (2), when there is none such, it is not free". */
    private static void wallInAFreeCell() {
        DewBaron x = Check.isle(SORTS);
        for (int cell = 0; cell < 7; cell++) {
            Check.due("build in " + cell, false, x.wall(cell, true));
        }
        int[] none = {MIN, -1, 9, 10, 42, MAX};
        for (int cell : none) {
            Check.due("build in " + cell, false, x.wall(cell, true));
        }
        Check.due("status(2)", 7 + none.length, x.status(2));
        Check.due("no ACT", 0, x.has(11));
        Check.due("in 8", true, x.wall(8, true));
        Check.due("in 8 again", false, x.wall(8, true));
        x.hang(0, 7);
        Check.due("where a cloth hangs", false, x.wall(7, true));
        Check.due("where it hung", true, x.wall(3, true));
        x.wall(0, false);
        Check.due("in the first CELL again", true, x.wall(0, true));
        Check.due("walls", 3, x.has(2));
    }

    /** Promise 16: "or there is no wall". */
    private static void wallTakenDown() {
        DewBaron x = Check.isle(SORTS);
        for (int cell = 1; cell < 9; cell++) {
            Check.due("take down in " + cell, false, x.wall(cell, false));
        }
        int[] none = {MIN, -1, 9, 10, 42, MAX};
        for (int cell : none) {
            Check.due("take down in " + cell, false, x.wall(cell, false));
        }
        Check.due("status(2)", 8 + none.length, x.status(2));
        Check.due("no ACT", 0, x.has(11));
        Check.due("in 0", true, x.wall(0, false));
        Check.due("in 0 again", false, x.wall(0, false));
        x.wall(8, true);
        Check.due("one that was built", true, x.wall(8, false));
        Check.due("no walls", 0, x.has(2));
        DewBaron large = Check.isle("island 7 6;wall at 6 5;");
        Check.due("in 42", false, large.wall(42, false));
        Check.due("in 41", true, large.wall(41, false));
        Check.due("build in 42", false, large.wall(42, true));
        Check.due("build in 41", true, large.wall(41, true));
    }

    private static void wallLeavesAll() {
        Twins.stays("wall(8, true)", 2, x -> !x.wall(8, true));
        Twins.stays("wall(1, true)", 2, x -> !x.wall(1, true));
        Twins.stays("wall(9, true)", 2, x -> !x.wall(9, true));
        Twins.stays("wall(-1, true)", 2, x -> !x.wall(-1, true));
        Twins.stays("wall(7, false)", 2, x -> !x.wall(7, false));
        Twins.stays("wall(6, false)", 2, x -> !x.wall(6, false));
        Twins.stays("wall(9, false)", 2, x -> !x.wall(9, false));
        Twins.stays("wall(-1, false)", 2, x -> !x.wall(-1, false));
    }

    /** Twelve WALLS are the most of a text; for building promise 16 names no such bound. */
    private static void moreWallsThanATextHas() {
        StringBuilder text = new StringBuilder("island 4 4;");
        for (int i = 0; i < 12; i++) {
            text.append("wall at ").append(i % 4).append(' ').append(i / 4).append(';');
        }
        DewBaron x = Check.isle(text.toString());
        for (int cell = 12; cell < 16; cell++) {
            Check.due("one more", true, x.wall(cell, true));
            Check.due("walls", cell + 1, x.has(2));
        }
    }

    /** Promise 17: "A NIGHT goes by under the sky as told: drops that came into CISTERNS". */
    private static void nightOfDrops() {
        DewBaron x = Check.isle("island 4 2;stone takes 1 at 1 0;web takes 2 at 2 0;cistern a at 0 0;cistern b at 3 0;"
            + "sky oc;dew takes*(1-cloud);cloudy 100;");
        Check.due("of both", 33, x.night());
        Check.due("the first one", 11, x.cistern(0, 1));
        Check.due("the second one", 22, x.cistern(1, 1));
        Check.due("an ACT", 1, x.has(11));
        Check.due("a NIGHT", 1, x.has(10));
        Check.due("the seed stays", 1, x.has(12));
        Check.due("nothing comes", 0, Check.isle("island 2 2;cistern a at 0 0;").night());
    }

    /** A 2 by 2 island with a CISTERN and no cloth, by its image. */
    private static DewBaron stream(String text, int nights, int drops) {
        DewBaron x = Check.isle(text);
        int[] octets = Check.changed(Check.octets(x), 0, nights / 256, 1, nights % 256, 6, drops / 256, 7, drops % 256);
        Check.due("on", true, Check.on(x, octets));
        return x;
    }

    /** "(9999 at most)"; promise 17: "(those above 9999 are lost, and counted here)". */
    private static void cisternsHold9999() {
        String text = "island 2 2;stone takes 1 at 0 0;cistern c at 1 1;dew 9;";
        int[][] rows = {{9890, 9998}, {9891, 9999}, {9892, 9999}, {9998, 9999}, {9999, 9999}};
        for (int[] row : rows) {
            DewBaron x = stream(text, 0, row[0]);
            Check.due("108 come to " + row[0], 108, x.night());
            Check.due("that are there", row[1], x.cistern(0, 1));
            DewBaron y = stream(text, 0, row[0]);
            Check.due("by the seed too", 108, y.nights(1));
            Check.due("that are there", row[1], y.cistern(0, 1));
        }
        DewBaron many = stream(text, 0, 9900);
        Check.due("forty NIGHTS, all counted", 4320, many.nights(40));
        Check.due("no more than 9999", 9999, many.cistern(0, 1));
        // it is drunk behind that: what is above 9999 is lost ahead of it
        int[][] drunk = {{9890, 9991}, {9891, 9992}, {9892, 9992}, {9999, 9992}};
        for (int[] row : drunk) {
            DewBaron x = stream(STREAM, 0, row[0]);
            x.night();
            Check.due("drunk behind " + row[0], row[1], x.cistern(0, 1));
        }
    }

    /** "then each gives what is drunk, or all that it has". */
    private static void drunkOrAllThatItHas() {
        String text = "island 2 2;stone takes 1 at 0 0;cistern c at 1 1;dew 1;drinks ";
        int[][] rows = {{11, 1}, {12, 0}, {13, 0}, {999, 0}, {0, 12}};
        for (int[] row : rows) {
            DewBaron x = Check.isle(text + row[0] + ";");
            Check.due("what came, whatever is drunk", 12, x.night());
            Check.due("left of twelve less " + row[0], row[1], x.cistern(0, 1));
        }
        DewBaron x = stream(text + "20;", 0, 10);
        int[] left = {2, 0, 0};
        for (int due : left) {
            x.night();
            Check.due("left", due, x.cistern(0, 1));
        }
        DewBaron each = Check.isle("island 4 2;stone takes 3 at 1 0;cistern a at 0 0;cistern b at 3 0;dew 1;drinks 5;");
        each.night();
        Check.due("each gives by itself", 7, each.cistern(0, 1));
        Check.due("one that has nothing gives nothing", 0, each.cistern(1, 1));
    }

    /** "NIGHTS are counted (9999 at most)"; promise 17: "NONE, refused (3), when there were 9999". */
    private static void nightsAreCountedTo9999() {
        DewBaron x = stream(STREAM, 9997, 0);
        Check.due("9998", 108, x.night());
        Check.due("9999", 108, x.night());
        Check.due("has", 9999, x.has(10));
        Check.due("no more", -1, x.night());
        Check.due("nor by the seed", -1, x.nights(1));
        Check.due("status(3)", 2, x.status(3));
        Check.due("has still", 9999, x.has(10));
        Check.due("drops still", 202, x.cistern(0, 1));
        Check.due("undone", true, x.undo());
        Check.due("there were 9998 again", 9998, x.has(10));
        Check.due("so one more", 108, x.nights(1));
        Check.due("9999 again", 9999, x.has(10));
    }

    private static void nightLeavesAll() {
        Twins.stays("night() behind 9999", 3, EdgesOfActsTest::old, x -> x.night() == -1);
        Twins.stays("nights(1) behind 9999", 3, EdgesOfActsTest::old, x -> x.nights(1) == -1);
        Twins.stays("night() without an island", 3, DewBaron::new, x -> x.night() == -1);
        Twins.stays("nights(1) without an island", 3, DewBaron::new, x -> x.nights(1) == -1);
        Twins.stays("nights(0)", 3, x -> x.nights(0) == -1);
        Twins.stays("nights(41)", 3, x -> x.nights(41) == -1);
        Twins.stays("nights(-1)", 3, x -> x.nights(-1) == -1);
        Twins.stays("nights(min)", 3, x -> x.nights(MIN) == -1);
        Twins.stays("nights(max)", 3, x -> x.nights(MAX) == -1);
    }

    /** A busy object behind 9999 NIGHTS, with ACTS that can be undone. */
    private static DewBaron old() {
        DewBaron x = Twins.busy();
        Check.due("on", true, Check.on(x, Check.changed(Check.octets(x), 0, 9998 / 256, 1, 9998 % 256)));
        x.hang(0, 7);
        Check.due("the last NIGHT", true, x.night() >= 0);
        return x;
    }

    /** Promise 18: "n NIGHTS (1 .. 40) by the seed"; "NONE, refused (3), when n can't be". */
    private static void nightsOneToForty() {
        for (int n = 1; n <= 40; n++) {
            DewBaron x = Check.isle(STREAM);
            Check.due(n + " NIGHTS", 108 * n, x.nights(n));
            Check.due("are counted", n, x.has(10));
            Check.due("left", 101 * n, x.cistern(0, 1));
        }
        DewBaron x = Check.isle(STREAM);
        int[] no = {MIN, -40, -1, 0, 41, 42, 9999, 10000, MAX};
        for (int n : no) {
            Check.due("nights " + n, -1, x.nights(n));
        }
        Check.due("status(3)", no.length, x.status(3));
        Check.due("no NIGHT", 0, x.has(10));
        Check.due("no ACT", 0, x.has(11));
        Check.due("the seed stays", 1, x.has(12));
    }

    /** Promise 18: "beyond 9999". */
    private static void nightsWithin9999() {
        for (int n : new int[] {1, 2, 39, 40}) {
            DewBaron x = stream(STREAM, 9999 - n + 1, 0);
            Check.due(n + " would be 10000", -1, x.nights(n));
            Check.due("they stay", 9999 - n + 1, x.has(10));
            Check.due("the seed stays", 1, x.has(12));
            Check.due("no ACT", 0, x.has(11));
            DewBaron y = stream(STREAM, 9999 - n, 0);
            Check.due(n + " are 9999", 108 * n, y.nights(n));
            Check.due("they are", 9999, y.has(10));
        }
    }

    /** Promise 18: "one ACT". */
    private static void nightsAreOneAct() {
        DewBaron x = Check.isle(STREAM);
        x.nights(3);
        x.nights(40);
        Check.due("two ACTS", 2, x.has(11));
        Check.due("undone", true, x.undo());
        Check.due("forty are gone", 3, x.has(10));
        Check.due("their drops too", 303, x.cistern(0, 1));
        Check.due("undone", true, x.undo());
        Check.due("all are gone", 0, x.has(10));
        Check.due("none is left", false, x.undo());
    }

    /** Drops of a NIGHT by the seed, one for each HOUR with cloud, or for HOUR 1 alone. */
    private static int clouds(int seed, int cloudy, boolean all) {
        DewBaron x = Check.isle("island 2 2;web takes 1 at 0 0;cistern c at 1 1;sky ssssssssssss;cloudy " + cloudy + ";dew cloud"
            + (all ? "" : "*max(0,2-hour)") + ";");
        x.seed(seed);
        return x.nights(1);
    }

    /** "for each HOUR 1 .. 12 a DRAW of 100: below cloudy it has cloud, else it is clear". */
    private static void aDrawBelowCloudy() {
        // 1103515245 * 1 + 12345 = 1103527590; by 64: 17242618; by 100: 18
        Check.due("18 is not below 18", 0, clouds(1, 18, false));
        Check.due("18 is below 19", 1, clouds(1, 19, false));
        // 12345; 192; 92
        Check.due("92 is not below 92", 0, clouds(0, 92, false));
        Check.due("92 is below 93", 1, clouds(0, 93, false));
        // of the largest seed: 1043980748; 16312199; 99
        Check.due("99 is not below 99", 0, clouds(MAX, 99, false));
        Check.due("99 is below 100", 1, clouds(MAX, 100, false));
        for (int cloudy = 0; cloudy <= 100; cloudy++) {
            for (int seed : new int[] {1, 4711}) {
                long x = seed;
                int due = 0;
                for (int hour = 1; hour <= 12; hour++) {
                    x = (1103515245L * x + 12345L) % 2147483648L;
                    due += x / 64 % 100 < cloudy ? 1 : 0;
                }
                Check.due("cloudy " + cloudy + " from the seed " + seed, due, clouds(seed, cloudy, true));
            }
        }
        Check.due("cloudy 0: never", 0, clouds(5, 0, true));
        Check.due("cloudy 100: always", 12, clouds(5, 100, true));
        // else it is clear: neither wind nor smoke, whatever is told; and COLD comes
        DewBaron x = Check.isle("island 2 2;web takes 1 at 0 0;cistern c at 1 1;sky swswswswswsw;dew cold+9*(wind+smoke);");
        Check.due("clear all the NIGHT", 78, x.nights(1));
    }

    /** "x (the seed) becomes (1103515245 x + 12345) mod 2 to the 31": twelve of them in each NIGHT. */
    private static void theSeedGoesRound() {
        for (int seed : new int[] {0, 1, 2, 1000, 1 << 30, MAX - 1, MAX}) {
            for (String text : new String[] {STREAM, STREAM + "cloudy 100;", "island 2 2;"}) {
                DewBaron x = Check.isle(text);
                x.seed(seed);
                x.nights(3);
                long is = seed;
                for (int i = 0; i < 36; i++) {
                    is = (1103515245L * is + 12345L) % 2147483648L;
                }
                Check.due("behind three NIGHTS from " + seed, is, x.has(12));
            }
        }
    }

    /** Promise 19: "The latest ACT is undone: all that ACTS change is as it was ahead of it". */
    private static void undoOfEachAct() {
        undone("hang", x -> x.hang(0, 7));
        undone("build", x -> x.wall(7, true));
        undone("take down", x -> x.wall(0, false));
        undone("take down what was built", x -> x.wall(8, false));
        undone("night", x -> x.night() >= 0);
        DewBaron one = Twins.busy();
        DewBaron two = Twins.busy();
        int seed = two.has(12);
        two.nights(5);
        Check.due("undo of nights", true, two.undo());
        two.seed(seed);
        Twins.alike("undone nights", one, two);
    }

    private static void undone(String act, java.util.function.Predicate<DewBaron> does) {
        DewBaron one = Twins.busy();
        DewBaron two = Twins.busy();
        Check.due(act, true, does.test(two));
        Check.due("an ACT more: " + act, one.has(11) + 1, two.has(11));
        Check.due("undo of " + act, true, two.undo());
        Twins.alike("undone " + act, one, two);
    }

    /** "The last 20 can be undone." */
    private static void undoOfTwenty() {
        for (int acts : new int[] {1, 19, 20, 21, 40, 41}) {
            DewBaron x = Check.isle(STREAM);
            for (int i = 0; i < acts; i++) {
                x.night();
                Check.due("that can be undone", Math.min(i + 1, 20), x.has(11));
            }
            int can = Math.min(acts, 20);
            for (int i = 1; i <= can; i++) {
                Check.due("undo " + i + " of " + acts, true, x.undo());
                Check.due("NIGHTS", acts - i, x.has(10));
                Check.due("drops", 101 * (acts - i), x.cistern(0, 1));
                Check.due("left to undo", can - i, x.has(11));
            }
            Check.due("one more", false, x.undo());
            Check.due("all stays", acts - can, x.has(10));
            x.night();
            Check.due("a new ACT", 1, x.has(11));
            Check.due("it can be undone", true, x.undo());
            Check.due("it alone", false, x.undo());
        }
    }

    /** A call that is refused is no ACT; and what came behind an ACT that is undone is none either. */
    private static void undoBehindARefusal() {
        DewBaron x = Check.isle(SORTS);
        x.hang(0, 7);
        x.hang(0, 0);
        x.wall(0, true);
        x.wall(8, false);
        x.nights(0);
        x.seed(-1);
        Check.due("one ACT", 1, x.has(11));
        Check.due("the hanging is undone", true, x.undo());
        Check.due("its CELL", 3, x.thing(0, 0));
        Check.due("none", false, x.undo());
        x.hang(0, 7);
        x.hang(0, 8);
        x.undo();
        x.wall(8, true);
        x.undo();
        Check.due("behind the first hanging", 7, x.thing(0, 0));
        Check.due("no wall", 0, x.cell(8, 1));
        x.undo();
        Check.due("ahead of all", 3, x.thing(0, 0));
        Check.due("none again", false, x.undo());
    }

    /** "(but the seed)". */
    private static void undoLeavesTheSeed() {
        DewBaron x = Check.isle(STREAM + "cloudy 50;");
        x.nights(2);
        int seed = x.has(12);
        x.undo();
        Check.due("as it became", seed, x.has(12));
        x.seed(9);
        x.night();
        x.seed(10);
        x.undo();
        Check.due("as it was told last", 10, x.has(12));
    }

    /** Promise 19: "false, refused (4), when none can be". */
    private static void undoOfNone() {
        Twins.stays("undo() of a new object", 4, DewBaron::new, x -> !x.undo());
        Twins.stays("undo() behind island()", 4, () -> Check.isle(Twins.ISLE), x -> !x.undo());
        Twins.stays("undo() behind all ACTS", 4, EdgesOfActsTest::allUndone, x -> !x.undo());
        Twins.stays("undo() behind on()", 4, EdgesOfActsTest::onItsImage, x -> !x.undo());
    }

    private static DewBaron allUndone() {
        DewBaron x = Twins.busy();
        for (int i = 0; i < 4; i++) {
            Check.due("undo " + i, true, x.undo());
        }
        return x;
    }

    private static DewBaron onItsImage() {
        DewBaron x = Twins.busy();
        Check.due("on", true, Check.on(x, Check.octets(x)));
        return x;
    }

    /** Promise 20: "true; false, refused (5), when it is below 0". */
    private static void seedFromZero() {
        DewBaron x = new DewBaron();
        for (int seed : new int[] {0, 1, 2, 1 << 30, MAX - 1, MAX}) {
            Check.due("seed " + seed, true, x.seed(seed));
            Check.due("it is " + seed, seed, x.has(12));
            for (int no : new int[] {-1, -2, MIN, MIN + 1}) {
                Check.due("seed " + no, false, x.seed(no));
            }
            Check.due("it stays " + seed, seed, x.has(12));
        }
        Check.due("status(5)", 24, x.status(5));
        Check.due("no ACT", 0, x.has(11));
        Twins.stays("seed(-1)", 5, y -> !y.seed(-1));
        Twins.stays("seed(min)", 5, y -> !y.seed(MIN));
    }

    /** Promise 31: "AN IMAGE: NIGHTS (two bytes, the higher first), for each CELL .., for each cloth .., for each CISTERN ..". */
    private static void imageOfAll() {
        DewBaron x = Check.isle("island 3 2;wall at 0 0;cistern a at 1 0;cloth b takes 5 at 2 0;stone takes 9 at 0 1;"
            + "cistern d at 1 1;dew takes;drinks 3;");
        x.nights(7);
        x.hang(0, 5);
        x.wall(2, true);
        int first = x.cistern(0, 1);
        int second = x.cistern(1, 1);
        int[] due = {0, 7, 1, 0, 1, 0, 0, 0, 5, first / 256, first % 256, second / 256, second % 256, 0};
        due[13] = Check.seal(due, 13);
        Check.due("bytes", 14, x.image());
        for (int k = 0; k < due.length; k++) {
            Check.due("octet " + k, due[k], x.octet(k));
        }
        Check.due("drops of both", 7 * 60 - 21, first);
        Check.due("the other one's", 7 * 108 - 21, second);
    }

    private static void imageOfTheSmallestAndTheLargest() {
        Check.due("without an island", 3, new DewBaron().image());
        Check.due("the smallest", 2 + 4 + 1, Check.isle("island 2 2;").image());
        Check.due("stones and webs have no byte", 2 + 4 + 1,
            Check.isle("island 2 2;stone takes 1 at 0 0;web takes 1 at 1 0;house at 1 1;").image());
        StringBuilder text = new StringBuilder("island 7 6;");
        for (int i = 0; i < 5; i++) {
            text.append("cistern c").append((char) ('a' + i)).append(" at ").append(i).append(" 0;");
        }
        for (int i = 0; i < 10; i++) {
            text.append("cloth d").append((char) ('a' + i)).append(" takes 1 at ").append(i % 5).append(' ')
                .append(4 + i / 5).append(';');
        }
        DewBaron x = Check.isle(text.toString());
        int[] octets = Check.octets(x);
        Check.due("the largest", 2 + 42 + 10 + 10 + 1, octets.length);
        Check.due("its last cloth", 39, octets[53]);
        Check.due("its last byte", Check.seal(octets, 64), octets[64]);
        Check.due("is the last one", -1, x.octet(65));
        octets[43] = 1;
        octets[53] = 40;
        octets[62] = 39;
        octets[63] = 15;
        octets[64] = Check.seal(octets, 64);
        Check.due("on of the largest", true, Check.on(x, octets));
        Check.due("its wall", 1, x.cell(41, 1));
        Check.due("its cloth", 40, x.thing(9, 0));
        Check.due("its CISTERN", 9999, x.cistern(4, 1));
    }

    /** "(two bytes, the higher first)", up to 9999. */
    private static void twoBytes() {
        for (int n : new int[] {0, 1, 255, 256, 257, 511, 512, 9984, 9998, 9999}) {
            DewBaron x = stream(STREAM, n, 0);
            x.image();
            Check.due("NIGHTS " + n + ": the higher byte", n / 256, x.octet(0));
            Check.due("NIGHTS " + n + ": the lower byte", n % 256, x.octet(1));
            DewBaron y = stream(STREAM, 0, n);
            y.image();
            Check.due("drops " + n + ": the higher byte", n / 256, y.octet(6));
            Check.due("drops " + n + ": the lower byte", n % 256, y.octet(7));
        }
        DewBaron x = stream(STREAM, 255, 0);
        x.night();
        x.image();
        Check.due("256 by a NIGHT: the higher byte", 1, x.octet(0));
        Check.due("256 by a NIGHT: the lower byte", 0, x.octet(1));
    }

    /** "last a byte: all ahead from 79 on, c = (5 c + it) mod 251". */
    private static void theLastByte() {
        DewBaron none = new DewBaron();
        none.image();
        // 395 - 251 = 144; 720 - 502 = 218
        Check.due("of two 0", 218, none.octet(2));
        DewBaron x = Check.isle("island 2 2;");
        x.image();
        // 218; 1090 - 1004 = 86; 430 - 251 = 179; 895 - 753 = 142; 710 - 502 = 208
        Check.due("of six 0", 208, x.octet(6));
        x.wall(3, true);
        x.image();
        Check.due("of five 0 and 1", 209, x.octet(6));
        boolean[] seen = new boolean[251];
        for (int nights = 0; nights < 251; nights++) {
            int[] octets = {0, nights, 0, 0, 0, 0, 0};
            octets[6] = Check.seal(octets, 6);
            seen[octets[6]] = true;
            DewBaron each = Check.isle("island 2 2;");
            Check.due("on of " + nights, true, Check.on(each, octets));
            each.image();
            Check.due("the last byte of " + nights, octets[6], each.octet(6));
        }
        Check.due("0 is one of them", true, seen[0]);
        Check.due("250 is one of them", true, seen[250]);
    }

    /** Promise 32: "Byte k of the latest image(); NONE when there is none such." */
    private static void octetOfTheLatest() {
        DewBaron x = new DewBaron();
        Check.due("ahead of any", -1, x.octet(0));
        x.image();
        Check.due("the third of three", 218, x.octet(2));
        Check.due("the fourth", -1, x.octet(3));
        Check.tell(x, SORTS);
        Check.due("an island writes none", 218, x.octet(2));
        Check.due("so there are three", -1, x.octet(3));
        int length = x.image();
        Check.due("the last one", Check.seal(Check.octets(x), length - 1), x.octet(length - 1));
        int[] no = {MIN, -1, length, length + 1, 64, 65, 66, MAX};
        for (int k : no) {
            Check.due("octet " + k, -1, x.octet(k));
        }
        int before = x.octet(1);
        x.night();
        Check.due("a NIGHT writes none", before, x.octet(1));
        Check.tell(x, "island 2 2;");
        x.image();
        Check.due("of the latest, not of the longest", -1, x.octet(7));
    }

    /** Promise 33: "true, all is as it tells, no ACT can be undone". */
    private static void onOfAnImage() {
        DewBaron x = Twins.busy();
        int[] octets = Check.octets(x);
        DewBaron y = Check.isle(Twins.ISLE);
        Check.put(y, 8, 7, 6);
        y.walked();
        y.seed(x.has(12));
        y.hang(0, 8);
        y.night();
        Check.due("on", true, Check.on(y, octets));
        Check.due("no ACT", 0, y.has(11));
        Check.due("none can be undone", false, y.undo());
        y.image();
        for (int k = 0; k < octets.length; k++) {
            Check.due("as it tells: octet " + k, octets[k], y.octet(k));
        }
        Check.due("on its own image", true, Check.on(x, octets));
        Twins.alike("all is as it tells", x, y);
    }

    /** "NIGHTS, drops 9999 at most, walls .., cloths .." : the last that are taken. */
    private static void onOfTheEdges() {
        DewBaron x = Check.isle(SORTS);
        int[] octets = Check.octets(x);
        taken("9999 NIGHTS", x, octets, 0, 39, 1, 15);
        taken("9999 drops", x, octets, 13, 39, 14, 15);
        taken("0 of both", x, octets, 0, 0, 1, 0, 13, 0, 14, 0);
        taken("a wall less", x, octets, 2, 0);
        taken("a wall in the last CELL", x, octets, 10, 1);
        taken("walls wherever there may be some", x, octets, 2, 1, 9, 1, 10, 1);
        taken("a wall where a cloth hung", x, octets, 5, 1, 11, 7);
        taken("a cloth in the first CELL", x, octets, 2, 0, 11, 0);
        taken("a cloth in the last CELL", x, octets, 11, 8);
        taken("cloths by turns", x, octets, 11, 5, 12, 3);
    }

    private static void taken(String why, DewBaron x, int[] octets, int... changes) {
        int[] it = Check.changed(octets, changes);
        Check.due(why, true, Check.on(x, it));
        Check.due(why + ": the tape went", false, x.end(1));
        int[] is = Check.octets(x);
        for (int k = 0; k < it.length; k++) {
            Check.due(why + ": octet " + k, it[k], is[k]);
        }
    }

    /** "false, refused (5), all staying, if it is none such": the first that are not taken. */
    private static void onRefused() {
        refused("10000 NIGHTS", 0, 39, 1, 16);
        refused("65535 NIGHTS", 0, 255, 1, 255);
        refused("10240 NIGHTS", 0, 40, 1, 0);
        refused("10000 drops", 13, 39, 14, 16);
        refused("65535 drops", 13, 255, 14, 255);
        refused("10240 drops", 13, 40, 14, 0);
        int[] taken = {1, 2, 4, 6};
        for (int cell : taken) {
            refused("a wall in " + cell, 2 + cell, 1);
            refused("a cloth in " + cell, 11, cell);
            refused("the other cloth in " + cell, 12, cell);
        }
        for (int no : new int[] {2, 3, 128, 255}) {
            refused("a wall of " + no, 2, no);
            refused("a wall of " + no + " in the last CELL", 10, no);
        }
        for (int no : new int[] {9, 10, 128, 254, 255}) {
            refused("a cloth in " + no, 11, no);
            refused("the other cloth in " + no, 12, no);
        }
        refused("a cloth in the other one's CELL", 11, 5);
        refused("the other one in that one's", 12, 3);
        refused("both in a free one", 11, 7, 12, 7);
        refused("a cloth in a wall", 11, 0);
        refused("the other one in a wall", 12, 0);
        refused("a wall where a cloth hangs", 5, 1);
        refused("a wall where the other one hangs", 7, 1);
        refused("a wall where a cloth is hung", 11, 8, 10, 1);
    }

    /** "walls where there is no HOUSE, stone, web, CISTERN", the first THING of all, the last one of ten. */
    private static void onOfWallsOnThings() {
        StringBuilder text = new StringBuilder("island 4 4;");
        for (int i = 0; i < 10; i++) {
            text.append(i % 2 == 0 ? "stone" : "web").append(" takes 1 at ").append(i % 4).append(' ').append(i / 4).append(';');
        }
        DewBaron x = Check.isle(text.toString());
        int[] octets = Check.octets(x);
        for (int cell = 0; cell < 16; cell++) {
            Check.due("a wall in " + cell, cell >= 10, Check.on(x, Check.changed(octets, 2 + cell, 1)));
        }
        DewBaron y = Check.isle(text.toString().replace("stone takes 1 at 0 0", "cloth a takes 1 at 0 0"));
        octets = Check.octets(y);
        for (int cell = 1; cell < 16; cell++) {
            Check.due("the cloth in " + cell, cell >= 10, Check.on(y, Check.changed(octets, 18, cell)));
            Check.due("a wall in its place", cell >= 10, Check.on(y, Check.changed(octets, 18, cell, 2, 1)));
        }
    }

    private static void refused(String why, int... changes) {
        DewBaron x = Check.isle(SORTS);
        x.night();
        x.hang(0, 8);
        int[] octets = Check.changed(Check.octets(Check.isle(SORTS)), changes);
        Check.due(why, false, Check.on(x, octets));
        Check.due(why + ": status(5)", 1, x.status(5));
        Check.due(why + ": the tape went", false, x.end(1));
        Check.due(why + ": NIGHTS stay", 1, x.has(10));
        Check.due(why + ": ACTS stay", 2, x.has(11));
        Check.due(why + ": a cloth stays", 8, x.thing(0, 0));
        Check.due(why + ": drops stay", 120, x.cistern(0, 1));
        Check.due(why + ": walls stay", 1, x.has(2));
    }

    private static void onOfTheWrongLength() {
        DewBaron x = Check.isle(SORTS);
        int[] octets = Check.octets(x);
        for (int length = 0; length <= 20; length++) {
            int[] other = java.util.Arrays.copyOf(octets, length);
            if (length > 0) {
                other[length - 1] = Check.seal(other, length - 1);
            }
            Check.due(length + " bytes", length == 16, Check.on(x, other));
        }
        Check.due("status(5)", 20, x.status(5));
        for (int wrong = 0; wrong < 256; wrong++) {
            int[] other = octets.clone();
            other[15] = wrong;
            Check.due("the last byte " + wrong, wrong == octets[15], Check.on(Check.isle(SORTS), other));
        }
        int[] full = new int[1600];
        full[1599] = Check.seal(full, 1599);
        Check.due("all the tape", false, Check.on(x, full));
        DewBaron bare = Check.isle("island 2 2;");
        Check.due("an image of another ISLAND", false, Check.on(bare, octets));
        Check.due("and the other way", false, Check.on(x, Check.octets(bare)));
        Check.due("the shortest", true, Check.on(bare, Check.octets(bare)));
    }

    private static void onLeavesAll() {
        int[] octets = Check.octets(Twins.busy());
        int[][] changes = {{0, 39, 1, 16}, {octets.length - 3, 39, octets.length - 2, 16}, {3, 1}, {4, 1}, {10, 2}, {11, 1},
            {11, 9}, {12, 3}, {12, 8}};
        for (int[] change : changes) {
            int[] wrong = Check.changed(octets, change);
            Twins.stays("on() of " + java.util.Arrays.toString(change), 5, x -> !Check.on(x, wrong));
        }
        Twins.stays("on() of no bytes", 5, x -> !Check.on(x));
        int[] torn = octets.clone();
        torn[torn.length - 1] = (torn[torn.length - 1] + 1) % 251;
        Twins.stays("on() of a wrong last byte", 5, x -> !Check.on(x, torn));
        Twins.stays("on() of a byte too many", 5, x -> !Check.on(x, java.util.Arrays.copyOf(octets, octets.length + 1)));
    }

    private static void onWithoutIsland() {
        int[] octets = Check.octets(new DewBaron());
        Twins.stays("on() without an island", 5, DewBaron::new, x -> !Check.on(x, octets));
        Twins.stays("on() of no bytes without an island", 5, DewBaron::new, x -> !Check.on(x));
    }

    /** Promise 34: "How many were refused: 0 feed(), end(); 1 island(); .. NONE for others." */
    private static void statusOfEach() {
        DewBaron x = new DewBaron();
        int[] due = new int[6];
        counts(x, due, 0, "end", y -> !y.end(1));
        for (int i = 0; i < 80; i++) {
            x.feed(0, 0, 0, 0, 0);
        }
        counts(x, due, 0, "feed", y -> y.feed(0, 0, 0, 0, 0) == -1);
        counts(x, due, 1, "island", y -> y.island() == -1);
        counts(x, due, 2, "hang", y -> !y.hang(0, 0));
        counts(x, due, 2, "build", y -> !y.wall(0, true));
        counts(x, due, 2, "take down", y -> !y.wall(0, false));
        counts(x, due, 3, "night", y -> y.night() == -1);
        counts(x, due, 3, "nights", y -> y.nights(1) == -1);
        counts(x, due, 4, "undo", y -> !y.undo());
        counts(x, due, 5, "seed", y -> !y.seed(-1));
        counts(x, due, 5, "walked", y -> y.walked() == -1);
        counts(x, due, 5, "on", y -> !y.on());
        counts(x, due, 5, "wrung", EdgesOfActsTest::wrungOfAByte);
        Check.tell(x, SORTS);
        counts(x, due, 0, "island() forgets none", y -> !y.end(1));
        Check.due("the image is taken", true, Check.on(x, Check.octets(x)));
        counts(x, due, 4, "nor does on()", y -> !y.undo());
    }

    private static void counts(DewBaron x, int[] due, int what, String call, java.util.function.Predicate<DewBaron> refused) {
        for (int times = 0; times < 2; times++) {
            Check.due(call + " is refused", true, refused.test(x));
            due[what]++;
            for (int other = 0; other < 6; other++) {
                Check.due(call + ": status " + other, due[other], x.status(other));
            }
        }
        for (int no : new int[] {MIN, -1, 6, 7, MAX}) {
            Check.due("status " + no, -1, x.status(no));
        }
    }

    private static boolean wrungOfAByte(DewBaron x) {
        Check.put(x, 200);
        return x.wrung() == -1;
    }

    /** What answers NONE without being refused is not counted. */
    private static void statusCountsRefusalsAlone() {
        DewBaron x = Check.isle(SORTS);
        x.has(13);
        x.letter(2, 0, 0);
        x.cell(9, 0);
        x.thing(4, 0);
        x.cistern(1, 0);
        x.sky(0);
        x.cold(9, 0);
        x.dew(4, 1, 0);
        x.whole(5);
        x.order(2);
        x.alike(3, -1);
        x.linen(-1, 0);
        x.down(1, 0);
        x.best(1);
        x.votes(1, 0);
        x.walk(0);
        x.stores(2);
        x.octet(0);
        x.fault(2);
        x.status(6);
        Check.put(x, 7, 8);
        x.walked();
        Check.put(x, 1, 0);
        x.wrung();
        x.hang(0, 7);
        x.night();
        x.nights(1);
        x.undo();
        x.seed(0);
        Check.on(x, Check.octets(x));
        for (int what = 0; what < 6; what++) {
            Check.due("none was refused: status " + what, 0, x.status(what));
        }
    }
}
