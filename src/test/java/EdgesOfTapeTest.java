/** Promises 1 to 7 at their edges, sentence by sentence: a new object, the tape, island(), fault(), has(), NAMES. */
final class EdgesOfTapeTest {
    private static final int MIN = Integer.MIN_VALUE;
    private static final int MAX = Integer.MAX_VALUE;

    public static void main(String[] args) {
        constants();
        noIslandIsThere();
        noActWithoutIsland();
        feedTellsHowManyThereAre();
        feedOfNoMoreThan1600();
        feedBehindThoseOnTheTape();
        theHighestByteFirst();
        aRefusedFeedLeavesAll();
        endOfSoMany();
        endKeepsTheFirst();
        aRefusedEndLeavesAll();
        islandTellsHowManyStatements();
        theTapeGoes();
        aFaultLeavesAll();
        withoutAStatement();
        withoutAFaultAllIsNew();
        nothingOfTheOldIsland();
        faultOfTheLatest();
        has();
        hasAtItsMost();
        letters();
        fiveHundredAndTwelveCalls();
        Check.end();
    }

    private static void constants() {
        Check.due("NONE", -1, DewBaron.NONE);
        Check.due("NOTHING", -1000000000, DewBaron.NOTHING);
    }

    /** Promise 1: "No island; the seed is 1." */
    private static void noIslandIsThere() {
        DewBaron x = new DewBaron();
        for (int what = 0; what < 13; what++) {
            Check.due("new: has " + what, what == 9 ? 5 : what == 12 ? 1 : 0, x.has(what));
        }
        for (int what = 0; what < 5; what++) {
            Check.due("new: cell 0 " + what, -1, x.cell(0, what));
            Check.due("new: thing 0 " + what, -1, x.thing(0, what));
            Check.due("new: cistern 0 " + what, -1, x.cistern(0, what));
            Check.due("new: whole " + what, -1, x.whole(what));
            Check.due("new: letter 0 0 " + what, -1, x.letter(0, 0, what));
            Check.due("new: letter 1 0 " + what, -1, x.letter(1, 0, what));
        }
        for (int hour = 0; hour <= 13; hour++) {
            Check.due("new: sky " + hour, hour == 0 || hour == 13 ? -1 : 0, x.sky(hour));
            Check.due("new: cold 0 " + hour, -1, x.cold(0, hour));
            Check.due("new: dew 0 " + hour, -1, x.dew(0, hour, 0));
        }
        Check.due("new: order", 0, x.order(-1));
        Check.due("new: order 0", -1, x.order(0));
        Check.due("new: wrung of no bytes", 0, x.wrung());
        Check.due("new: alike", -1, x.alike(1, -1));
        Check.due("new: alike of none", -1, x.alike(0, -1));
        Check.due("new: linen 0", 0, x.linen(0, 0));
        Check.due("new: linen 0, bits", 0, x.linen(0, 1));
        Check.due("new: linen 1", -1, x.linen(1, 0));
        Check.due("new: down", -1000000000, x.down(0, 0));
        Check.due("new: best", -1, x.best(0));
        Check.due("new: votes", -1, x.votes(0, 0));
        Check.due("new: walk", -1, x.walk(0));
        Check.due("new: stores", -1, x.stores(0));
        Check.due("new: stores, which", -1, x.stores(1));
        Check.due("new: octet", -1, x.octet(0));
        Check.due("new: fault", 0, x.fault(0));
        Check.due("new: its place", -1, x.fault(1));
        for (int what = 0; what < 6; what++) {
            Check.due("new: status " + what, 0, x.status(what));
        }
        Check.due("new: no byte on the tape", false, x.end(1));
    }

    private static void noActWithoutIsland() {
        DewBaron x = new DewBaron();
        Check.due("hang", false, x.hang(0, 0));
        Check.due("build", false, x.wall(0, true));
        Check.due("take down", false, x.wall(0, false));
        Check.due("status(2)", 3, x.status(2));
        Check.due("night", -1, x.night());
        Check.due("nights", -1, x.nights(1));
        Check.due("status(3)", 2, x.status(3));
        Check.due("the seed stays", 1, x.has(12));
        Check.due("undo", false, x.undo());
        Check.due("status(4)", 1, x.status(4));
        Check.put(x, 0, 1);
        Check.due("walked", -1, x.walked());
        Check.put(x, 0);
        Check.due("wrung", -1, x.wrung());
        Check.due("on", false, Check.on(x, Check.octets(x)));
        Check.due("status(5)", 3, x.status(5));
        Check.due("no ACTS", 0, x.has(11));
        Check.due("no NIGHTS", 0, x.has(10));
    }

    /** Promise 2: "Twenty bytes come behind those on the tape .. : how many there are". */
    private static void feedTellsHowManyThereAre() {
        DewBaron x = new DewBaron();
        for (int i = 1; i <= 80; i++) {
            Check.due("feed " + i, 20 * i, x.feed(i, MIN, MAX, -1, 0));
        }
        x.end(0);
        Check.due("feed anew", 20, x.feed(0, 0, 0, 0, 0));
    }

    /** Promise 2: "NONE, refused (0), if there would be more than 1600". */
    private static void feedOfNoMoreThan1600() {
        DewBaron x = new DewBaron();
        for (int i = 1; i <= 80; i++) {
            x.feed(0, 0, 0, 0, 0);
        }
        for (int there = 1581; there <= 1600; there++) {
            x.feed(0, 0, 0, 0, 0);
            x.end(1580);
            Check.due("1580 and twenty", 1600, x.feed(0, 0, 0, 0, 0));
            x.end(there);
            Check.due("into " + there, -1, x.feed(0, 0, 0, 0, 0));
            Check.due("there are " + there + " still", true, x.end(there));
            Check.due("and no more than " + there, false, x.end(there + 1));
        }
    }

    /** Promise 2: "come behind those on the tape", as many as end() has left there. */
    private static void feedBehindThoseOnTheTape() {
        DewBaron x = new DewBaron();
        x.feed(0x69736c61, 0x6e642032, 0x20323b41, 0x42434445, 0x46474849);
        Check.due("eleven are left", true, x.end(11));
        Check.due("twenty come behind them", 31, x.feed(0x77726e67, 0x77726e67, 0x20363b20, 0x20202020, 0x20202020));
        Check.due("what stood behind is gone", -1, x.island());
        Check.due("its place", 17, x.fault(1));
        x.feed(0x69736c61, 0x6e642032, 0x20323b41, 0x42434445, 0x46474849);
        x.end(11);
        x.feed(0x77726e67, 0x77726e67, 0x20363b20, 0x20202020, 0x20202020);
        x.end(11);
        x.feed(0x77616c6c, 0x20617420, 0x3120313b, 0x20202020, 0x20202020);
        Check.due("\"island 2 2;wall at 1 1;\"", 2, x.island());
        Check.due("its wall", 1, x.cell(3, 1));
    }

    /** Promise 2: "of each number the highest first"; a byte is 0 .. 255, whatever sign its number has. */
    private static void theHighestByteFirst() {
        DewBaron x = Check.isle("island 4 4;cloth a takes 9 at 0 0;cloth b takes 8 at 0 1;cloth c takes 7 at 0 2;"
            + "cloth d takes 6 at 0 3;cloth e takes 5 at 1 0;dew takes;wring 20;");
        // 108, 96, 84, 72, 60 drops, at minutes 0, 20, 40, 60, 80
        x.feed(0x03020100, 0x04000000, 0, 0, 0);
        x.end(5);
        Check.due("3, 2, 1, 0, 4", 72 + 64 + 56 + 48, x.wrung());
        x.feed(0x00010203, 0x04000000, 0, 0, 0);
        x.end(5);
        Check.due("0, 1, 2, 3, 4", 108 + 76 + 44 + 12, x.wrung());
        for (int octet = 128; octet < 256; octet++) {
            x.feed(0x69736c61, 0x6e642032, 0x20323b00 | octet, octet << 24, 0);
            x.end(12);
            Check.due("byte " + octet + " is no blank", -1, x.island());
            Check.due("and stands there", 11, x.fault(1));
        }
        x = Check.isle("island 7 6;");
        x.feed(0x80000000, 0, 0, 0, 0);
        x.end(2);
        Check.due("128 and 0: no CELL", -1, x.walked());
        x.feed(0x29000000 | 0x00220000, 0, 0, 0, 0);
        x.end(2);
        Check.due("41 and 34", 2, x.walked());
    }

    private static void aRefusedFeedLeavesAll() {
        Twins.stays("feed into 1581", 0, EdgesOfTapeTest::filled, x -> x.feed(-1, -1, -1, -1, -1) == -1);
        DewBaron x = filled();
        x.feed(-1, -1, -1, -1, -1);
        Check.due("the text stays as it was", -1, x.island());
        Check.due("its FAULT is at its length", 1581, x.fault(1));
        x = new DewBaron();
        Check.put(x, "island 2 2;wall at 1 1;" + " ".repeat(1577));
        Check.due("into 1600", -1, x.feed(-1, -1, -1, -1, -1));
        Check.due("they are there", 2, x.island());
    }

    /** A busy object with 1581 blanks on the tape. */
    private static DewBaron filled() {
        DewBaron x = Twins.busy();
        for (int i = 0; i < 80; i++) {
            x.feed(0x20202020, 0x20202020, 0x20202020, 0x20202020, 0x20202020);
        }
        x.end(1581);
        return x;
    }

    /** Promise 3: "true; false, refused (0), if it has not so many, or n is below 0". */
    private static void endOfSoMany() {
        DewBaron x = new DewBaron();
        Check.due("none of none", true, x.end(0));
        Check.due("one of none", false, x.end(1));
        Check.due("below 0", false, x.end(-1));
        for (int there = 20; there > 0; there--) {
            if (there == 20) {
                x.feed(0, 0, 0, 0, 0);
            }
            Check.due("one more than " + there, false, x.end(there + 1));
            Check.due("all " + there, true, x.end(there));
            Check.due("one less than " + there, true, x.end(there - 1));
            Check.due(there + " are there no more", false, x.end(there));
        }
        Check.due("-1", false, x.end(-1));
        Check.due("min", false, x.end(MIN));
        Check.due("max", false, x.end(MAX));
        Check.due("status(0)", 2 + 40 + 3, x.status(0));
        for (int i = 0; i < 80; i++) {
            x.feed(0, 0, 0, 0, 0);
        }
        Check.due("1601", false, x.end(1601));
        Check.due("1600", true, x.end(1600));
        Check.due("0", true, x.end(0));
        Check.due("1", false, x.end(1));
    }

    /** Promise 3: "The tape has its first n bytes alone". */
    private static void endKeepsTheFirst() {
        String text = "island 2 2;wall at 1 1;";
        for (int n = 0; n <= text.length(); n++) {
            DewBaron x = new DewBaron();
            Check.put(x, text);
            x.end(n);
            Check.due("the first " + n, n == 11 ? 1 : n == 23 ? 2 : -1, x.island());
        }
    }

    private static void aRefusedEndLeavesAll() {
        Twins.stays("end(1582)", 0, EdgesOfTapeTest::filled, x -> !x.end(1582));
        Twins.stays("end(-1)", 0, EdgesOfTapeTest::filled, x -> !x.end(-1));
        DewBaron x = new DewBaron();
        Check.put(x, "island 2 2;wall at 1 1;");
        Check.due("more", false, x.end(24));
        Check.due("less than none", false, x.end(-23));
        Check.due("all is there", 2, x.island());
    }

    /** Promise 4: "how many STATEMENTS". */
    private static void islandTellsHowManyStatements() {
        for (int n = 1; n <= 80; n++) {
            Check.due(n + " STATEMENTS", n, Check.tell(new DewBaron(), "island 2 2;" + "sky c;".repeat(n - 1)));
        }
        Check.due("81 STATEMENTS", -1, Check.tell(new DewBaron(), "island 2 2;" + "sky c;".repeat(80)));
    }

    /** Promise 4: "The tape (it goes, refused or not)". */
    private static void theTapeGoes() {
        DewBaron x = Check.isle("island 2 2;");
        Check.due("taken: it went", false, x.end(1));
        Check.due("taken: none is left", true, x.end(0));
        Check.due("so twenty are twenty", 20, x.feed(0, 0, 0, 0, 0));
        Check.due("refused", -1, x.island());
        Check.due("refused: it went", false, x.end(1));
        Check.due("so twenty are twenty", 20, x.feed(0, 0, 0, 0, 0));
    }

    /** Promise 4: "NONE, refused (1), with a FAULT (all stays ..)". */
    private static void aFaultLeavesAll() {
        for (String text : new String[] {"", "island 2 2", "island 9 2;", "island 2 2;cistern c at 0 0;cistern c at 1 1;",
            "island 2 2;dew ((((((((1))))))));", "island 2 2;seed 5;", "island 5 5;wall at 4 4;drinks 9;dew 1;dew 2;"}) {
            Twins.stays("the text \"" + text + "\"", 1, x -> Check.tell(x, text) == -1);
        }
        Twins.stays("a text with a FAULT, and no island", 1, DewBaron::new, x -> Check.tell(x, "island 2 2;wall") == -1);
    }

    /** Promise 4: "one without a STATEMENT has FAULT 1 at its length". */
    private static void withoutAStatement() {
        for (int length : new int[] {0, 1, 2, 19, 20, 21, 1599, 1600}) {
            Check.fault(" ".repeat(length), 1, length);
            Check.fault("\n".repeat(length), 1, length);
        }
        DewBaron x = Check.isle("island 2 2;");
        Check.due("an empty tape is no island", -1, x.island());
        Check.due("its FAULT", 1, x.fault(0));
        Check.due("its place", 0, x.fault(1));
        Check.due("all stays", 2, x.has(0));
    }

    /** Promise 4: "Without one there were no NIGHTS, CISTERNS are empty, no walk is told, no ACT can be undone; the seed stays." */
    private static void withoutAFaultAllIsNew() {
        DewBaron x = Twins.busy();
        int seed = x.has(12);
        Check.due("NIGHTS of before", 3, x.has(10));
        Check.due("ACTS of before", 4, x.has(11));
        Check.due("a walk of before", 6, x.walk(0));
        Check.due("drops of before", true, x.cistern(0, 1) > 0);
        Check.due("the same text again", 12, Check.tell(x, Twins.ISLE));
        Check.due("no NIGHTS", 0, x.has(10));
        Check.due("no ACTS", 0, x.has(11));
        Check.due("empty", 0, x.cistern(0, 1));
        Check.due("no walk", -1, x.walk(0));
        Check.due("the seed stays", seed, x.has(12));
        Check.due("the cloth hangs as told", 5, x.thing(2, 0));
        Check.due("the wall that was built is none", 0, x.cell(8, 1));
        Check.due("undo", false, x.undo());
        DewBaron twin = Check.isle(Twins.ISLE);
        twin.seed(seed);
        x.image();
        twin.image();
        Twins.alike("as a new object", twin, x);
    }

    /** "0 without", "none without", "5 without", whatever other texts told, taken or refused. */
    private static void nothingOfTheOldIsland() {
        for (String bare : new String[] {"island 3 3;cloth b takes 1 at 1 1;cistern a at 2 2;",
            "island 3 3;cloth b takes 1 at 1 1;cistern a at 2 2;dew 5;",
            "island 3 3;cloth b takes 1 at 1 1;cistern a at 2 2;dew 5;dries 1;", "island 2 2;"}) {
            bareBehind(bare, RICH);
            bareBehind(bare, RICH + "?");
            bareBehind(bare, RICH, RICH);
            bareBehind(bare, RICH, RICH + "?");
            bareBehind(bare, RICH, "island 2 2;");
            bareBehind(bare, "island 2 2;", RICH + "?");
            bareBehind(bare, RICH + "?", "island 2 2;");
        }
        DewBaron x = new DewBaron();
        for (int i = 0; i < 4; i++) {
            Check.due("one dew, one dries of each ISLAND", 22, Check.tell(x, RICH));
            Check.due("and of each that is refused", -1, Check.tell(x, RICH + "?"));
            Check.due("at the last byte", RICH.length(), x.fault(1));
        }
    }

    /** Whatever may be told, unlike what there is without. */
    private static final String RICH = "island 4 4;height 9 at 0 0;height 8 at 1 1;height 7 at 2 2;height 6 at 2 0;wall at 1 0;"
        + "wall at 3 3;house at 0 1;house at 1 2;cistern c at 2 0;cistern a at 0 2;cloth b takes 9 at 2 1;stone takes 8 at 3 0;"
        + "cloth d takes 7 at 3 1;web takes 6 at 3 2;sky owsowsowsows;dew takes+3;dries hour;drinks 99;cloudy 77;wring 17;"
        + "height 5 at 0 2;";

    private static void bareBehind(String bare, String... texts) {
        DewBaron x = new DewBaron();
        for (String before : texts) {
            Check.tell(x, before);
            // all is reckoned of each, so that nothing of it is left behind
            x.whole(0);
            x.order(-1);
            x.alike(2, -1);
            x.best(0);
            x.stores(0);
            x.nights(1);
        }
        DewBaron y = new DewBaron();
        Check.due("a bare one", Check.tell(y, bare), Check.tell(x, bare));
        x.seed(1);
        Check.due("by the seed", y.nights(1), x.nights(1));
        x.image();
        y.image();
        Twins.alike("as in a new object", y, x);
    }

    /** Promise 5: "Of the latest island(): its FAULT (what 0; 0 without, and ahead of any), its place (1; NONE without). NONE for another what." */
    private static void faultOfTheLatest() {
        DewBaron x = new DewBaron();
        faults("ahead of any", x, 0, -1);
        Check.tell(x, "island 2 2;");
        faults("without", x, 0, -1);
        Check.tell(x, "island 2 2;wall at 0 0;wall at 0 0;");
        faults("a wall on a wall", x, 4, 33);
        Check.tell(x, "");
        faults("of the latest", x, 1, 0);
        Check.tell(x, "island 2 2;cistern a at 0 0;cistern a at 0 0;");
        faults("a NAME twice", x, 2, 36);
        Check.tell(x, "island 2 2;dew ((((((((");
        faults("eight (", x, 5, 22);
        Check.tell(x, "island 2 2;dew 1;dew 1;");
        faults("two dews", x, 6, 17);
        x.hang(0, 0);
        x.feed(0, 0, 0, 0, 0);
        x.wrung();
        x.undo();
        x.seed(-1);
        faults("no other call has one", x, 6, 17);
        Check.tell(x, "island 2 2;");
        faults("without again", x, 0, -1);
        Check.put(x, "x");
        x.on();
        faults("on() has none", x, 0, -1);
    }

    private static void faults(String why, DewBaron x, int kind, int place) {
        Check.due(why + ": fault(0)", kind, x.fault(0));
        Check.due(why + ": fault(1)", place, x.fault(1));
        for (int what : new int[] {-1, 2, 3, MIN, MAX}) {
            Check.due(why + ": fault " + what, -1, x.fault(what));
        }
    }

    /** Promise 6: each number of has() alone; "NONE for others". */
    private static void has() {
        DewBaron x = Check.isle("island 7 6;wall at 0 0;house at 1 0;house at 2 0;cistern a at 3 0;cistern b at 4 0;"
            + "cistern d at 5 0;stone takes 1 at 0 1;cloth e takes 1 at 1 1;web takes 1 at 2 1;cloth f takes 1 at 3 1;"
            + "drinks 8;cloudy 9;wring 10;");
        int[] due = {7, 6, 1, 2, 3, 4, 2, 8, 9, 10, 0, 0, 1};
        allOfHas("as told", x, due);
        x.wall(41, true);
        x.wall(40, true);
        due[2] = 3;
        due[11] = 2;
        allOfHas("walls now", x, due);
        x.wall(0, false);
        due[2] = 2;
        due[11] = 3;
        allOfHas("one less", x, due);
        x.night();
        x.nights(3);
        due[10] = 4;
        due[11] = 5;
        due[12] = x.has(12);
        allOfHas("four NIGHTS, two ACTS", x, due);
        x.undo();
        due[10] = 1;
        due[11] = 4;
        allOfHas("undone", x, due);
        x.seed(0);
        due[12] = 0;
        allOfHas("the seed", x, due);
        for (int what : new int[] {-1, 13, 14, MIN, MAX}) {
            Check.due("has " + what, -1, x.has(what));
        }
    }

    private static void allOfHas(String why, DewBaron x, int[] due) {
        for (int what = 0; what < due.length; what++) {
            Check.due(why + ": has " + what, due[what], x.has(what));
        }
    }

    private static void hasAtItsMost() {
        DewBaron x = Check.isle("island 7 6;");
        for (int cell = 0; cell < 42; cell++) {
            Check.due("wall " + cell, true, x.wall(cell, true));
            Check.due("walls now", cell + 1, x.has(2));
            Check.due("ACTS that can be undone", Math.min(cell + 1, 20), x.has(11));
        }
        x.seed(MAX);
        Check.due("the largest seed", MAX, x.has(12));
    }

    /** Promise 7: "Letter k (0 .. 5) .. 1 .. 26; 0 behind it; NONE when there is none such." */
    private static void letters() {
        DewBaron x = Check.isle("island 4 4;cistern a at 0 0;cistern zyxwvu at 1 0;web takes 1 at 0 3;"
            + "cloth azazaz takes 1 at 2 0;stone takes 1 at 1 3;cloth z takes 1 at 3 0;cistern mnm at 0 1;");
        int[][] cisterns = {{1, 0, 0, 0, 0, 0}, {26, 25, 24, 23, 22, 21}, {13, 14, 13, 0, 0, 0}};
        int[][] cloths = {{1, 26, 1, 26, 1, 26}, {26, 0, 0, 0, 0, 0}};
        for (int k = 0; k < 6; k++) {
            for (int which = 0; which < 3; which++) {
                Check.due("CISTERN " + which + ", letter " + k, cisterns[which][k], x.letter(0, which, k));
            }
            for (int which = 0; which < 2; which++) {
                Check.due("cloth " + which + ", letter " + k, cloths[which][k], x.letter(1, which, k));
            }
            Check.due("no CISTERN 3", -1, x.letter(0, 3, k));
            Check.due("no cloth 2", -1, x.letter(1, 2, k));
            for (int no : new int[] {-1, MIN, MAX}) {
                Check.due("no CISTERN " + no, -1, x.letter(0, no, k));
                Check.due("no cloth " + no, -1, x.letter(1, no, k));
                Check.due("no kind " + no, -1, x.letter(no, 0, k));
            }
            Check.due("no kind 2", -1, x.letter(2, 0, k));
        }
        for (int kind = 0; kind < 2; kind++) {
            for (int k : new int[] {-1, 6, 7, MIN, MAX}) {
                Check.due("letter " + kind + " 0 " + k, -1, x.letter(kind, 0, k));
                Check.due("letter " + kind + " 1 " + k, -1, x.letter(kind, 1, k));
            }
        }
        for (char letter = 'a'; letter <= 'z'; letter++) {
            DewBaron y = Check.isle("island 2 2;cistern q" + letter + " at 0 0;");
            Check.due("letter " + letter, letter - 'a' + 1, y.letter(0, 0, 1));
        }
    }

    /** "An object is used for at most 512 calls": the last one is answered as the first one is. */
    private static void fiveHundredAndTwelveCalls() {
        DewBaron x = Check.isle("island 2 2;cistern c at 0 0;cloth a takes 1 at 1 0;dew 1;");
        // three feeds, end(), island(); then each turn has five calls
        int calls = 5;
        int nights = 0;
        while (calls + 5 < 512) {
            Check.due("hang", true, x.hang(0, nights % 2 == 0 ? 2 : 1));
            Check.due("night", 12, x.night());
            nights++;
            Check.due("drops", 12 * nights, x.cistern(0, 1));
            Check.due("NIGHTS", nights, x.has(10));
            Check.due("image", 2 + 4 + 1 + 2 + 1, x.image());
            calls += 5;
        }
        while (calls < 512) {
            Check.due("the last ones", 0, x.status(2));
            calls++;
        }
    }
}
