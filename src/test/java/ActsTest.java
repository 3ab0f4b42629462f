/** Promises 15 to 20 and 31 to 34: ACTS, the seed, images, refusals. */
final class ActsTest {
    private static final String ISLE = "island 3 3;wall at 0 0;house at 1 0;cistern c at 2 0;cloth a takes 1 at 0 1;"
        + "stone takes 2 at 1 1;cloth b takes 3 at 2 1;web takes 4 at 0 2;dew takes;drinks 20;cloudy 40;";

    public static void main(String[] args) {
        hang();
        wall();
        night();
        nightAtItsMost();
        nights();
        undo();
        undoOfTwenty();
        seed();
        image();
        octet();
        on();
        onRefuses();
        onWithoutIsland();
        status();
        Check.end();
    }

    private static void hang() {
        DewBaron x = Check.isle(ISLE);
        int[] taken = {0, 1, 2, 3, 4, 5, 6, -1, 9};
        for (int cell : taken) {
            Check.due("hang 0 " + cell, false, x.hang(0, cell));
        }
        Check.due("hang 2 7", false, x.hang(2, 7));
        Check.due("hang -1 7", false, x.hang(-1, 7));
        Check.due("status(2)", 11, x.status(2));
        Check.due("no ACTS", 0, x.has(11));
        Check.due("hang 1 7", true, x.hang(1, 7));
        Check.due("the second cloth is THING 2", 7, x.thing(2, 0));
        Check.due("the first stays", 3, x.thing(0, 0));
        Check.due("what is in its CELL", 3, x.cell(7, 1));
        Check.due("what was its CELL", 0, x.cell(5, 1));
        Check.due("an ACT", 1, x.has(11));
        Check.due("into the free one", true, x.hang(0, 5));
        Check.due("NIGHTS stay", 0, x.has(10));
        DewBaron wet = Check.isle("island 2 2;cloth a takes 1 at 0 0;height 1 at 0 0;height 1 at 1 1;cistern c at 1 1;"
            + "dew cold;");
        Check.due("high and dry", 0, wet.cistern(0, 2));
        wet.hang(0, 1);
        Check.due("in a pool", 3 * 78, wet.cistern(0, 2));
    }

    private static void wall() {
        DewBaron x = Check.isle(ISLE);
        for (int cell = 0; cell < 7; cell++) {
            Check.due("build in " + cell, false, x.wall(cell, true));
        }
        for (int cell = 1; cell < 9; cell++) {
            Check.due("take down in " + cell, false, x.wall(cell, false));
        }
        Check.due("build in 9", false, x.wall(9, true));
        Check.due("build in -1", false, x.wall(-1, true));
        Check.due("take down in 9", false, x.wall(9, false));
        Check.due("take down in -1", false, x.wall(-1, false));
        Check.due("status(2)", 19, x.status(2));
        Check.due("build in 8", true, x.wall(8, true));
        Check.due("walls", 2, x.has(2));
        Check.due("in it", 1, x.cell(8, 1));
        Check.due("how open", 6, x.cell(4, 2));
        Check.due("take down in 0", true, x.wall(0, false));
        Check.due("ACTS", 2, x.has(11));
        Check.due("in it now", 0, x.cell(0, 1));
        DewBaron many = Check.isle("island 7 6;");
        for (int cell = 0; cell < 42; cell++) {
            Check.due("wall " + cell, true, many.wall(cell, true));
        }
        Check.due("more walls than a text has", 42, many.has(2));
    }

    private static void night() {
        DewBaron x = Check.isle(ISLE);
        // takes 1 + 2 + 3 + 4, twelve HOURS
        Check.due("drops that came", 120, x.night());
        Check.due("what is left", 100, x.cistern(0, 1));
        Check.due("NIGHTS", 1, x.has(10));
        Check.due("ACTS", 1, x.has(11));
        Check.due("the seed is not asked", 1, x.has(12));
        Check.due("the second", 120, x.night());
        Check.due("what is left then", 200, x.cistern(0, 1));
        Check.due("no island", -1, new DewBaron().night());
        Check.due("no CISTERN", 0, Check.isle("island 2 2;stone takes 1 at 0 0;dew 9;").night());
        DewBaron dry = Check.isle("island 2 2;stone takes 1 at 0 0;cistern c at 1 1;dew 1;drinks 999;");
        Check.due("all is drunk: came", 12, dry.night());
        Check.due("all is drunk: left", 0, dry.cistern(0, 1));
    }

    private static void nightAtItsMost() {
        DewBaron x = Check.isle("island 2 2;stone takes 1 at 0 0;cistern c at 1 1;dew 9;drinks 7;");
        image(x, 9998, 9950, 0, 0, 0, 0);
        Check.due("the last NIGHT", 108, x.night());
        Check.due("9999 at most, then it is drunk", 9992, x.cistern(0, 1));
        Check.due("NIGHTS", 9999, x.has(10));
        Check.due("none more", -1, x.night());
        Check.due("nor by the seed", -1, x.nights(1));
        Check.due("status(3)", 2, x.status(3));
        Check.due("all stays", 9992, x.cistern(0, 1));
        Check.due("the seed stays", 1, x.has(12));
        image(x, 9990, 0, 0, 0, 0, 0);
        Check.due("ten are too many", -1, x.nights(10));
        Check.due("nine are not", 9 * 108, x.nights(9));
    }

    /** Puts an island of 2 by 2 with a CISTERN and no cloth into a state by its image. */
    private static void image(DewBaron x, int nights, int drops, int... walls) {
        int[] octets = {nights / 256, nights % 256, walls[0], walls[1], walls[2], walls[3], drops / 256, drops % 256, 0};
        octets[8] = Check.seal(octets, 8);
        Check.put(x, octets);
        Check.due("on", true, x.on());
    }

    private static void nights() {
        DewBaron x = Check.isle("island 2 2;stone takes 1 at 0 0;cistern c at 1 1;dew 1-cloud;cloudy 40;drinks 2;");
        long seed = 1;
        int[] skies = new int[10];
        for (int i = 0; i < 120; i++) {
            seed = (1103515245L * seed + 12345L) % 2147483648L;
            skies[i / 12] += seed / 64 % 100 < 40 ? 0 : 1;
        }
        int left = 0;
        int came = 0;
        for (int drops : skies) {
            came += drops;
            left = Math.max(0, left + drops - 2);
        }
        Check.due("drops that came", came, x.nights(10));
        Check.due("left", left, x.cistern(0, 1));
        Check.due("the seed", seed, x.has(12));
        Check.due("NIGHTS", 10, x.has(10));
        Check.due("one ACT", 1, x.has(11));
        Check.due("nights 0", -1, x.nights(0));
        Check.due("nights -1", -1, x.nights(-1));
        Check.due("nights 41", -1, x.nights(41));
        Check.due("nights max", -1, x.nights(Integer.MAX_VALUE));
        Check.due("status(3)", 4, x.status(3));
        Check.due("no island", -1, new DewBaron().nights(1));
        Check.due("undone", true, x.undo());
        Check.due("undone: NIGHTS", 0, x.has(10));
        Check.due("undone: left", 0, x.cistern(0, 1));
        Check.due("the seed is not undone", seed, x.has(12));
        DewBaron clear = Check.isle("island 2 2;stone takes 1 at 0 0;cistern c at 1 1;sky oooooooooooo;dew 1-cloud;");
        Check.due("cloudy 0: all is clear", 480, clear.nights(40));
        DewBaron cloud = Check.isle("island 2 2;stone takes 1 at 0 0;cistern c at 1 1;dew 1-cloud;cloudy 100;");
        Check.due("cloudy 100: nothing is", 0, cloud.nights(40));
        DewBaron none = Check.isle("island 2 2;stone takes 1 at 0 0;dew 1;");
        Check.due("without CISTERNS", 0, none.nights(1));
        Check.due("draws all the same", 12, draws(1, none.has(12)));
    }

    /** How many draws lead from one seed to another. */
    private static int draws(long from, long to) {
        for (int i = 0; i < 1000; i++) {
            if (from == to) {
                return i;
            }
            from = (1103515245L * from + 12345L) % 2147483648L;
        }
        return -1;
    }

    private static void undo() {
        DewBaron x = Check.isle(ISLE);
        Check.due("none yet", false, x.undo());
        Check.due("status(4)", 1, x.status(4));
        x.hang(0, 7);
        x.wall(8, true);
        x.wall(0, false);
        x.night();
        x.hang(0, 3);
        Check.due("the hanging", true, x.undo());
        Check.due("the CELL again", 7, x.thing(0, 0));
        Check.due("the night", true, x.undo());
        Check.due("drops again", 0, x.cistern(0, 1));
        Check.due("NIGHTS again", 0, x.has(10));
        Check.due("the wall", true, x.undo());
        Check.due("the wall again", 1, x.cell(0, 1));
        Check.due("the other wall", true, x.undo());
        Check.due("no wall again", 0, x.cell(8, 1));
        Check.due("the first", true, x.undo());
        Check.due("the first CELL again", 3, x.thing(0, 0));
        Check.due("none left", false, x.undo());
        Check.due("status(4) then", 2, x.status(4));
        x.seed(5);
        Check.due("the seed is no ACT", false, x.undo());
    }

    private static void undoOfTwenty() {
        DewBaron x = Check.isle("island 7 6;");
        for (int cell = 0; cell < 25; cell++) {
            x.wall(cell, true);
            Check.due("ACTS of " + cell, Math.min(20, cell + 1), x.has(11));
        }
        for (int i = 0; i < 20; i++) {
            Check.due("undo " + i, true, x.undo());
            Check.due("walls behind undo " + i, 24 - i, x.has(2));
        }
        Check.due("the 21st", false, x.undo());
        Check.due("the first five stay", 1, x.cell(4, 1));
        Check.due("the sixth went", 0, x.cell(5, 1));
        x.wall(41, true);
        Check.due("one more", true, x.undo());
        Check.due("that one alone", 5, x.has(2));
    }

    private static void seed() {
        DewBaron x = new DewBaron();
        Check.due("seed -1", false, x.seed(-1));
        Check.due("seed min", false, x.seed(Integer.MIN_VALUE));
        Check.due("status(5)", 2, x.status(5));
        Check.due("it stays", 1, x.has(12));
        Check.due("seed 0", true, x.seed(0));
        Check.due("it is 0", 0, x.has(12));
        Check.due("seed max", true, x.seed(Integer.MAX_VALUE));
        Check.due("it is the most", Integer.MAX_VALUE, x.has(12));
        Check.tell(x, "island 2 2;cloudy 50;");
        x.nights(1);
        Check.due("twelve draws", 12, draws(Integer.MAX_VALUE, x.has(12)));
    }

    private static void image() {
        DewBaron x = Check.isle(ISLE);
        for (int i = 0; i < 300 / 40; i++) {
            x.nights(40);
        }
        x.hang(1, 7);
        x.wall(8, true);
        int drops = x.cistern(0, 1);
        // NIGHTS, nine CELLS, two cloths, a CISTERN, the check
        Check.due("bytes", 2 + 9 + 2 + 2 + 1, x.image());
        int[] due = {280 / 256, 280 % 256, 1, 0, 0, 0, 0, 0, 0, 0, 1, 3, 7, drops / 256, drops % 256, 0};
        due[15] = Check.seal(due, 15);
        for (int k = 0; k < due.length; k++) {
            Check.due("octet " + k, due[k], x.octet(k));
        }
        DewBaron none = new DewBaron();
        Check.due("no island: bytes", 3, none.image());
        Check.due("no island: the check", (5 * (5 * 79 % 251)) % 251, none.octet(2));
        Check.due("the largest", 2 + 42 + 10 + 10 + 1, Check.isle("island 7 6;cistern a at 0 0;cistern b at 1 0;"
            + "cistern d at 2 0;cistern e at 3 0;cistern f at 4 0;cloth g takes 1 at 0 1;cloth h takes 1 at 1 1;"
            + "cloth i takes 1 at 2 1;cloth j takes 1 at 3 1;cloth k takes 1 at 4 1;cloth l takes 1 at 5 1;"
            + "cloth m takes 1 at 6 1;cloth n takes 1 at 0 2;cloth o takes 1 at 1 2;cloth p takes 1 at 2 2;").image());
    }

    private static void octet() {
        DewBaron x = Check.isle(ISLE);
        Check.due("ahead of any", -1, x.octet(0));
        x.image();
        Check.due("octet 16", -1, x.octet(16));
        Check.due("octet -1", -1, x.octet(-1));
        Check.due("octet max", -1, x.octet(Integer.MAX_VALUE));
        x.night();
        Check.due("of the latest image()", 0, x.octet(1));
        Check.tell(x, "island 2 2;");
        Check.due("of another island", 3, x.octet(11));
        x.image();
        Check.due("the new one", -1, x.octet(7));
    }

    private static void on() {
        DewBaron x = Check.isle(ISLE);
        x.hang(1, 7);
        x.wall(8, true);
        x.night();
        int[] octets = Check.octets(x);
        x.undo();
        x.undo();
        x.undo();
        x.seed(9);
        x.hang(0, 8);
        Check.put(x, octets);
        Check.due("on", true, x.on());
        Check.due("NIGHTS", 1, x.has(10));
        Check.due("drops", 100, x.cistern(0, 1));
        Check.due("walls", 2, x.has(2));
        Check.due("the wall", 1, x.cell(8, 1));
        Check.due("cloth 0", 3, x.thing(0, 0));
        Check.due("cloth 1", 7, x.thing(2, 0));
        Check.due("no ACT", 0, x.has(11));
        Check.due("undo", false, x.undo());
        Check.due("the seed stays", 9, x.has(12));
        Check.due("the tape went", false, x.end(1));
        Check.put(x, Check.changed(octets, 0, 39, 1, 15, 13, 39, 14, 15));
        Check.due("9999 of both", true, x.on());
        Check.due("9999 NIGHTS", 9999, x.has(10));
        Check.due("9999 drops", 9999, x.cistern(0, 1));
        Check.put(x, Check.changed(octets, 2, 0, 11, 0, 12, 3));
        Check.due("a cloth where the text has another one, or a wall", true, x.on());
        Check.due("its CELL", 0, x.thing(0, 0));
        Check.due("the other one's", 3, x.thing(2, 0));
    }

    private static void onRefuses() {
        DewBaron x = Check.isle(ISLE);
        x.night();
        int[] octets = Check.octets(x);
        int[] torn = octets.clone();
        torn[15] = (torn[15] + 1) % 251;
        int[][] wrong = {{}, {0, 0, 218}, torn, java.util.Arrays.copyOf(octets, 15), java.util.Arrays.copyOf(octets, 17)};
        int[][] changes = {{0, 39, 1, 16}, {0, 255}, {13, 39, 14, 16}, {2, 2}, {3, 1}, {4, 1}, {6, 1}, {8, 1}, {5, 1}, {11, 0},
            {11, 1}, {11, 2}, {11, 4}, {11, 5}, {11, 6}, {11, 9}, {11, 255}, {12, 3}, {10, 1, 12, 8}};
        for (int i = 0; i < wrong.length; i++) {
            Check.due("on of wrong " + i, false, Check.on(x, wrong[i]));
            Check.due("the tape went of wrong " + i, false, x.end(1));
        }
        for (int i = 0; i < changes.length; i++) {
            Check.due("on of changed " + i, false, Check.on(x, Check.changed(octets, changes[i])));
            Check.due("the tape went of changed " + i, false, x.end(1));
        }
        Check.due("status(5)", wrong.length + changes.length, x.status(5));
        Check.due("NIGHTS stay", 1, x.has(10));
        Check.due("ACTS stay", 1, x.has(11));
        Check.due("drops stay", 100, x.cistern(0, 1));
        Check.due("walls stay", 1, x.has(2));
        Check.due("a cloth stays", 3, x.thing(0, 0));
        Check.put(x, octets);
        Check.due("the right one", true, x.on());
        DewBaron y = Check.isle("island 2 2;stone takes 1 at 1 0;");
        int[] empty = Check.octets(y);
        Check.put(y, Check.changed(empty, 3, 1));
        Check.due("a wall where the first THING is, a stone", false, y.on());
        Check.put(y, Check.changed(empty, 2, 1, 4, 1, 5, 1));
        Check.due("walls in all other CELLS", true, y.on());
        Check.due("so many", 3, y.has(2));
    }

    private static void onWithoutIsland() {
        DewBaron x = new DewBaron();
        int[] octets = Check.octets(x);
        Check.put(x, octets);
        Check.due("on of what image() wrote", false, x.on());
        Check.due("the tape went", false, x.end(1));
        Check.put(x, Check.changed(octets, 0, 39, 1, 15));
        Check.due("on of 9999 NIGHTS", false, x.on());
        Check.due("status(5)", 2, x.status(5));
        Check.due("NIGHTS", 0, x.has(10));
        Check.due("a text with a FAULT", -1, Check.tell(x, "island 2 1;"));
        Check.put(x, octets);
        Check.due("on behind a text with a FAULT", false, x.on());
        Check.tell(x, "island 2 2;");
        Check.put(x, octets);
        Check.due("on of too few bytes", false, x.on());
        Check.put(x, Check.octets(x));
        Check.due("on with an island", true, x.on());
        Check.due("status(5) behind all", 4, x.status(5));
    }

    private static void status() {
        DewBaron x = new DewBaron();
        x.end(1);
        x.island();
        x.hang(0, 0);
        x.wall(0, true);
        x.wall(0, false);
        x.night();
        x.nights(1);
        x.undo();
        x.seed(-1);
        x.walked();
        Check.put(x, 1);
        x.wrung();
        x.on();
        int[] due = {1, 1, 3, 2, 1, 4};
        for (int what = 0; what < due.length; what++) {
            Check.due("status " + what, due[what], x.status(what));
        }
        Check.due("status 6", -1, x.status(6));
        Check.due("status -1", -1, x.status(-1));
    }
}
