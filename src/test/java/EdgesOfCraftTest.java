/** Promises 21 to 30 at their edges, sentence by sentence: wringing, hanging alike, linen, walls, walks, stores. */
final class EdgesOfCraftTest {
    private static final int MIN = Integer.MIN_VALUE;
    private static final int MAX = Integer.MAX_VALUE;

    public static void main(String[] args) {
        orderOfSixAtMost();
        orderOfNow();
        orderOfThoseThatThereAre();
        orderOfLikeOnes();
        minuteZeroForTheFirst();
        minutesAsTold();
        fromItsSunOn();
        noLessThanNothing();
        wrungInAnOrder();
        wrungOfNoSuchOrder();
        wrungOfTen();
        alikeOfOneOrTwo();
        alikeOfOthers();
        inItsCellOrAFreeOne();
        unlikeCells();
        alikeOfLikeOnes();
        alikeInTheFirstCell();
        alikeAsTold();
        linenOfNone();
        linenOfAll();
        linenOfLikeOnes();
        linenOfOthers();
        downOfThoseThatThereAre();
        downMoreOrLess();
        bestIfAboveZero();
        bestOfLikeOnes();
        votesForAndAgainst();
        votesOfThoseThatThereAre();
        walkedOfTwoToTen();
        walkedOfCells();
        walkedLeavesAll();
        walksFromTheEdge();
        walksFromEachToOneNext();
        noWalkOverAWall();
        theFirstWalk();
        walkOfThoseThatThereAre();
        storesFromOneOn();
        storesOf999();
        storesOfTheFirstCistern();
        storesOfAllThatIsDrunk();
        storesFromNowOn();
        storesOfOthers();
        Check.end();
    }

    /** So many cloths in a row, each takes as much as told. */
    private static String cloths(String takes) {
        StringBuilder text = new StringBuilder("island 7 6;dew takes;");
        for (int i = 0; i < takes.length(); i++) {
            text.append("cloth q").append((char) ('a' + i)).append(" takes ").append(takes.charAt(i)).append(" at ")
                .append(i % 7).append(' ').append(i / 7).append(';');
        }
        return text.toString();
    }

    /** "THE BEST ORDER (6 cloths at most)"; promise 21: "NONE with more than 6 cloths". */
    private static void orderOfSixAtMost() {
        for (int n = 0; n <= 10; n++) {
            DewBaron x = Check.isle(cloths("3333333333".substring(0, n)) + "wring 1;");
            int got = 36 * n - n * (n - 1) / 2;
            Check.due("got of " + n, n <= 6 ? got : -1, x.order(-1));
            for (int k = 0; k <= 10; k++) {
                Check.due("order " + k + " of " + n, n <= 6 && k < n ? k : -1, x.order(k));
            }
        }
        DewBaron six = Check.isle(cloths("123456") + "stone takes 9 at 0 5;web takes 9 at 1 5;wring 20;");
        // 48, 40, 32 drops, as many as 72, 40, 8: like ones, of which the first is told
        Check.due("of six, whatever else there is", 120, six.order(-1));
        int[] due = {3, 4, 5, 0, 1, 2};
        for (int k = 0; k < 6; k++) {
            Check.due("order " + k, due[k], six.order(k));
        }
    }

    /** THE BEST ORDER is that of the ISLAND of now, whatever another one had, and of the cloths as they hang now. */
    private static void orderOfNow() {
        DewBaron x = Check.isle(cloths("999999"));
        Check.due("of six", 648 - 75, x.order(-1));
        for (int n = 5; n >= 0; n--) {
            Check.tell(x, cloths("11111".substring(0, n)) + "wring 1;");
            Check.due("of " + n + " now", 12 * n - n * (n - 1) / 2, x.order(-1));
            Check.due("the first one", n > 0 ? 0 : -1, x.order(0));
            Check.due("none behind them", -1, x.order(n));
        }
        DewBaron y = Check.isle("island 3 2;cloth a takes 1 at 0 0;cloth b takes 1 at 0 1;wall at 2 1;dew 1+high;wring 5;"
            + "height 4 at 1 0;");
        Check.due("a ahead of b, that is in the shade", 24, y.order(-1));
        Check.due("the first one", 0, y.order(0));
        y.wall(5, false);
        Check.due("no shade", 19, y.order(-1));
        y.hang(1, 1);
        Check.due("b has sixty", 12 + 55, y.order(-1));
        y.wall(2, true);
        Check.due("and shade", 72, y.order(-1));
    }

    /** Promise 21: "or for others". */
    private static void orderOfThoseThatThereAre() {
        DewBaron x = Check.isle(cloths("12") + "wring 20;");
        Check.due("order -1", 24, x.order(-1));
        Check.due("order 0", 1, x.order(0));
        Check.due("order 1", 0, x.order(1));
        for (int k : new int[] {MIN, -3, -2, 2, 3, 6, 7, 20, MAX}) {
            Check.due("order " + k, -1, x.order(k));
        }
    }

    /** "of like ones the first by cloths". */
    private static void orderOfLikeOnes() {
        DewBaron dry = Check.isle("island 3 3;cloth a takes 1 at 0 0;cloth b takes 1 at 0 1;cloth c takes 1 at 0 2;");
        Check.due("nothing is got", 0, dry.order(-1));
        DewBaron like = Check.isle(cloths("333") + "wring 2;");
        Check.due("like ones", 36 + 34 + 32, like.order(-1));
        // no matter when the second is wrung: it is dry; the first and the third are alike
        DewBaron some = Check.isle("island 3 3;cloth a takes 3 at 0 0;cloth b takes 1 at 0 1;cloth c takes 3 at 0 2;"
            + "dew takes-1;wring 4;");
        Check.due("two of three", 24 + 20, some.order(-1));
        int[] due = {0, 2, 1};
        for (int k = 0; k < 3; k++) {
            Check.due("dry: order " + k, k, dry.order(k));
            Check.due("like: order " + k, k, like.order(k));
            Check.due("some: order " + k, due[k], some.order(k));
        }
        // each of them loses nothing, whatever the order is: their SUN comes late
        DewBaron shade = Check.isle("island 4 3;cloth a takes 1 at 0 0;cloth b takes 9 at 0 1;cloth c takes 5 at 0 2;"
            + "wall at 1 0;wall at 1 1;wall at 1 2;wring 5;dew takes;");
        Check.due("all is got", 180, shade.order(-1));
        for (int k = 0; k < 3; k++) {
            Check.due("shade: order " + k, k, shade.order(k));
        }
    }

    private static int wrung(DewBaron x, int... order) {
        Check.put(x, order);
        return x.wrung();
    }

    /** "what is on a cloth when its wringing begins is got (minute 0 for the first one)". */
    private static void minuteZeroForTheFirst() {
        DewBaron x = Check.isle(cloths("1") + "wring 20;");
        Check.due("the first one loses nothing", 12, x.order(-1));
        Check.due("nor by the tape", 12, wrung(x, 0));
        DewBaron two = Check.isle(cloths("11") + "wring 1;");
        Check.due("the second one loses a drop", 23, two.order(-1));
        Check.due("nor more by the tape", 23, wrung(two, 1, 0));
    }

    /** "each in as many minutes as told" (5 without). */
    private static void minutesAsTold() {
        for (int wring = 1; wring <= 20; wring++) {
            DewBaron x = Check.isle(cloths("999") + "wring " + wring + ";");
            Check.due("three by " + wring, 324 - 3 * wring, x.order(-1));
        }
        Check.due("5 without", 324 - 15, Check.isle(cloths("999")).order(-1));
    }

    /** "From its SUN on (10 minutes for each wall to the right of it in its row) .. (the first one in the minute behind that one)". */
    private static void fromItsSunOn() {
        for (int walls = 0; walls <= 5; walls++) {
            StringBuilder text = new StringBuilder("island 7 2;cloth a takes 9 at 0 0;cloth b takes 9 at 0 1;dew takes;");
            for (int i = 0; i < walls; i++) {
                text.append("wall at ").append(6 - i).append(" 1;");
            }
            for (int wring : new int[] {1, 9, 10, 11, 19, 20}) {
                DewBaron x = Check.isle(text + "wring " + wring + ";");
                int lost = Math.max(0, wring - 10 * walls);
                Check.due(walls + " walls, minute " + wring, 216 - lost, wrung(x, 0, 1));
                Check.due("the other one has none", 216 - wring, wrung(x, 1, 0));
            }
        }
        DewBaron left = Check.isle("island 7 2;cloth a takes 9 at 6 0;cloth b takes 9 at 3 1;wall at 2 1;wall at 0 1;"
            + "wall at 3 0;dew takes;wring 20;");
        Check.due("walls to the left or in another row", 196, wrung(left, 0, 1));
        left.wall(13, true);
        Check.due("a wall that is built now", 206, wrung(left, 0, 1));
        // at minute 20 that cloth begins with its SUN: it has lost nothing yet; at 40 it has lost 20
        DewBaron three = Check.isle("island 7 3;cloth a takes 9 at 0 0;cloth b takes 9 at 0 1;cloth c takes 9 at 0 2;"
            + "wall at 1 2;wall at 2 2;dew takes;wring 20;");
        Check.due("at its SUN", 108 + 108 + 108 - 40, wrung(three, 0, 2, 1));
        Check.due("twenty behind", 108 + 88 + 88, wrung(three, 0, 1, 2));
    }

    private static void noLessThanNothing() {
        String two = "island 2 2;cloth a takes 1 at 0 0;cloth b takes 1 at 0 1;dew ";
        int[][] rows = {{11, 12 + 1}, {12, 12}, {13, 12}, {20, 12}};
        for (int[] row : rows) {
            Check.due("twelve drops, minute " + row[0], row[1], wrung(Check.isle(two + "1;wring " + row[0] + ";"), 0, 1));
            Check.due("the best", row[1], Check.isle(two + "1;wring " + row[0] + ";").order(-1));
        }
        Check.due("dry ones", 0, wrung(Check.isle(two + "0;wring 20;"), 0, 1));
    }

    /** Promise 22: "a byte for each cloth, its number". */
    private static void wrungInAnOrder() {
        DewBaron x = Check.isle(cloths("987") + "stone takes 1 at 0 5;wring 20;");
        Check.due("0 1 2", 108 + 76 + 44, wrung(x, 0, 1, 2));
        Check.due("0 2 1", 108 + 64 + 56, wrung(x, 0, 2, 1));
        Check.due("2 1 0", 84 + 76 + 68, wrung(x, 2, 1, 0));
        Check.due("the tape went", false, x.end(1));
        Check.due("drops by dawn stay", 108, x.thing(0, 4));
        Check.due("no ACT", 0, x.has(11));
        Check.due("none was refused", 0, x.status(5));
    }

    /** Promise 22: "NONE, refused (5), when it is no such order". */
    private static void wrungOfNoSuchOrder() {
        int[][] wrong = {{}, {0}, {1}, {0, 0}, {1, 1}, {0, 2}, {2, 0}, {0, 255}, {255, 0}, {0, 1, 0}, {0, 1, 2}, {1, 0, 1},
            {2, 3}, {0, 128}};
        for (int[] order : wrong) {
            String call = "wrung of " + java.util.Arrays.toString(order);
            Twins.stays(call, 5, x -> wrung(x, order) == -1);
            DewBaron x = Twins.busy();
            wrung(x, order);
            Check.due(call + ": the tape went", false, x.end(1));
        }
        Twins.stays("wrung() without an island", 5, DewBaron::new, x -> wrung(x, 0) == -1);
        DewBaron none = Check.isle("island 2 2;stone takes 1 at 0 0;");
        Check.due("no cloths, no bytes", 0, wrung(none));
        Check.due("no cloths, a byte", -1, wrung(none, 0));
        Check.due("one cloth", 0, wrung(Check.isle("island 2 2;cloth a takes 1 at 0 0;"), 0));
    }

    private static void wrungOfTen() {
        DewBaron x = Check.isle(cloths("9999999999") + "wring 1;");
        Check.due("ten", 1080 - 45, wrung(x, 9, 8, 7, 6, 5, 4, 3, 2, 1, 0));
        Check.due("nine of ten", -1, wrung(x, 9, 8, 7, 6, 5, 4, 3, 2, 1));
        Check.due("one twice", -1, wrung(x, 9, 8, 7, 6, 5, 4, 3, 2, 1, 9));
        Check.due("a tenth number", -1, wrung(x, 10, 8, 7, 6, 5, 4, 3, 2, 1, 0));
        Check.due("eleven bytes", -1, wrung(x, 9, 8, 7, 6, 5, 4, 3, 2, 1, 0, 10));
    }

    /** Promise 23: "ALIKE, of n cloths (1, 2): .. (k NONE), the CELL of cloth k (0 and on), the drops of all together (20)". */
    private static void alikeOfOneOrTwo() {
        // 12 drops of the stone are in the first CISTERN; the cloths have 24 and 36
        DewBaron x = Check.isle("island 7 2;cistern a at 0 0;cistern b at 6 0;stone takes 1 at 0 1;cloth c takes 2 at 1 0;"
            + "cloth d takes 3 at 2 0;cloth e takes 9 at 6 1;dew takes;");
        // 108 to the second one; so all goes to the first one but that
        Check.due("one: more", 108 - 72, x.alike(1, -1));
        Check.due("one: its CELL", 1, x.alike(1, 0));
        Check.due("one: all together", 180, x.alike(1, 20));
        Check.due("one: no other cloth", -1, x.alike(1, 1));
        Check.due("two: more", 108 - 72, x.alike(2, -1));
        Check.due("two: the first", 1, x.alike(2, 0));
        Check.due("two: the second", 2, x.alike(2, 1));
        Check.due("two: all together", 180, x.alike(2, 20));
        Check.due("two: no third one", -1, x.alike(2, 2));
        for (int k : new int[] {MIN, -2, 3, 19, 21, MAX}) {
            Check.due("alike 1 " + k, -1, x.alike(1, k));
            Check.due("alike 2 " + k, -1, x.alike(2, k));
        }
        Check.due("nothing is hung", 1, x.thing(1, 0));
        Check.due("no ACT", 0, x.has(11));
        x.hang(2, 3);
        Check.due("the third one went: all is in the first CISTERN", 180, x.cistern(0, 2));
        Check.due("two: their 60 drops go to the second one", 120 - 60, x.alike(2, -1));
    }

    /** Promise 23: "NONE without CISTERNS, when there are not so many cloths, or for others." */
    private static void alikeOfOthers() {
        String text = "island 3 3;cistern a at 0 0;dew takes;";
        DewBaron none = Check.isle(text);
        DewBaron one = Check.isle(text + "cloth b takes 1 at 1 0;");
        DewBaron two = Check.isle(text + "cloth b takes 1 at 1 0;cloth c takes 1 at 2 0;");
        DewBaron three = Check.isle(text + "cloth b takes 1 at 1 0;cloth c takes 1 at 2 0;cloth d takes 1 at 0 1;");
        DewBaron dry = Check.isle("island 3 3;cloth b takes 1 at 1 0;cloth c takes 1 at 2 0;dew takes;");
        for (int k : new int[] {-1, 0, 1, 20}) {
            Check.due("no cloth for one: " + k, -1, none.alike(1, k));
            Check.due("one cloth for two: " + k, -1, one.alike(2, k));
            Check.due("two cloths for three: " + k, -1, two.alike(3, k));
            Check.due("three are not asked for: " + k, -1, three.alike(3, k));
            Check.due("without CISTERNS, one: " + k, -1, dry.alike(1, k));
            Check.due("without CISTERNS, two: " + k, -1, dry.alike(2, k));
            for (int n : new int[] {MIN, -1, 0, 3, 4, MAX}) {
                Check.due("alike " + n + " " + k, -1, two.alike(n, k));
            }
        }
        Check.due("one for one", 0, one.alike(1, -1));
        Check.due("two for two", 0, two.alike(2, -1));
        Check.due("two of three", 36, three.alike(2, 20));
    }

    /** "each in its CELL or a free one". */
    private static void inItsCellOrAFreeOne() {
        // no CELL is free: all stay, however unlike
        DewBaron full = Check.isle("island 2 2;cistern a at 0 0;cistern b at 1 1;cloth c takes 1 at 1 0;cloth d takes 2 at 0 1;"
            + "dew takes;");
        Check.due("one: stays", 1, full.alike(1, 0));
        Check.due("one: more", 36, full.alike(1, -1));
        Check.due("two: the first stays", 1, full.alike(2, 0));
        Check.due("two: the second stays", 2, full.alike(2, 1));
        // a high CELL that is free, a higher one of each sort that is not
        String high = "island 4 2;cistern a at 0 0;cloth b takes 1 at 0 1;height 5 at 3 1;dew high;";
        for (String taken : new String[] {"wall", "house", "cloth e takes 1", "stone takes 1", "web takes 1"}) {
            DewBaron x = Check.isle(high + taken + " at 3 0;height 9 at 3 0;");
            Check.due("not where there is a " + taken, 7, x.alike(1, 0));
        }
        DewBaron cistern = Check.isle("island 4 2;cistern a at 3 0;cloth b takes 1 at 0 1;height 5 at 3 1;height 9 at 3 0;dew high;");
        Check.due("not where there is a CISTERN", 7, cistern.alike(1, 0));
        DewBaron x = Check.isle(high + "height 9 at 3 0;wall at 3 0;");
        x.wall(3, false);
        Check.due("where the wall was taken down", 3, x.alike(1, 0));
        x.wall(3, true);
        x.wall(7, true);
        Check.due("not where one was built", 1, x.alike(1, 0));
        DewBaron own = Check.isle("island 4 2;cistern a at 0 0;cloth b takes 1 at 3 1;height 5 at 3 1;dew high;");
        Check.due("its own CELL is the best one", 7, own.alike(1, 0));
    }

    /** "unlike ones". */
    private static void unlikeCells() {
        // one CELL is high: the first cloth by CELLS gets it, the other one stays low; both take alike
        DewBaron x = Check.isle("island 3 2;cistern a at 0 0;cloth b takes 1 at 1 0;cloth c takes 1 at 2 0;height 9 at 2 1;"
            + "dew high;");
        Check.due("drops", 108, x.alike(2, 20));
        // (1, 5) is ahead of (3, 5), (4, 5) and of (5, ..)
        Check.due("the first", 1, x.alike(2, 0));
        Check.due("the second", 5, x.alike(2, 1));
        Check.due("one alone", 5, x.alike(1, 0));
        // neither can take the other one's CELL, which is not free
        DewBaron y = Check.isle("island 3 2;cistern a at 0 0;cloth b takes 9 at 1 0;cloth c takes 1 at 2 0;height 9 at 2 0;"
            + "wall at 0 1;wall at 1 1;wall at 2 1;dew high*takes;");
        Check.due("the high one stays with the second", 2, y.alike(2, 1));
        Check.due("the first stays", 1, y.alike(2, 0));
    }

    /** "as little more as can be ..; of like ones the most drops of all together; of like ones the first by CELLS". */
    private static void alikeOfLikeOnes() {
        // one CISTERN: 0 more however it hangs; two CELLS of like height
        DewBaron x = Check.isle("island 4 2;cistern a at 0 0;cloth b takes 1 at 1 0;height 3 at 3 0;height 4 at 2 1;height 4 at 3 1;"
            + "dew high;");
        Check.due("0 more", 0, x.alike(1, -1));
        Check.due("the most drops", 48, x.alike(1, 20));
        Check.due("the first by CELLS", 6, x.alike(1, 0));
        // less unlike comes ahead of more drops: 12 and 12, not 0 and 120
        DewBaron y = Check.isle("island 5 2;cistern a at 0 0;cistern b at 4 0;stone takes 1 at 0 1;cloth c takes 1 at 1 0;"
            + "height 1 at 0 1;height 9 at 1 1;height 1 at 4 1;dew high;");
        Check.due("none more", 0, y.alike(1, -1));
        Check.due("24 of both", 24, y.alike(1, 20));
        Check.due("beside the second", 9, y.alike(1, 0));
        DewBaron flat = Check.isle("island 3 3;cistern a at 0 0;cloth b takes 1 at 2 2;cloth c takes 1 at 2 1;dew 1;");
        Check.due("all alike: the first free CELL", 1, flat.alike(1, 0));
        Check.due("all alike, two: the first", 1, flat.alike(2, 0));
        Check.due("all alike, two: the second", 2, flat.alike(2, 1));
        DewBaron ahead = Check.isle("island 3 3;cistern a at 2 2;cloth b takes 1 at 2 1;cloth c takes 1 at 0 0;dew 1;");
        Check.due("its own CELL is the other one's first", 1, ahead.alike(2, 0));
        Check.due("so that one stays", 0, ahead.alike(2, 1));
    }

    /** CELLS begin with 0: it is as good as another one, for each cloth. */
    private static void alikeInTheFirstCell() {
        String text = "island 3 2;cistern a at 2 1;height 9 at 0 0;dew high;cloth b takes 1 at 1 0;";
        Check.due("for one", 0, Check.isle(text).alike(1, 0));
        DewBaron two = Check.isle(text + "cloth c takes 1 at 2 0;height 3 at 1 1;");
        Check.due("for the first of two", 0, two.alike(2, 0));
        Check.due("with the second one", 4, two.alike(2, 1));
        DewBaron second = Check.isle("island 3 2;cistern a at 2 1;height 9 at 0 0;height 3 at 1 0;wall at 1 1;wall at 0 1;"
            + "dew high*takes;cloth b takes 1 at 1 0;cloth c takes 9 at 2 0;");
        Check.due("for the second of two", 0, second.alike(2, 1));
        Check.due("with the first one", 1, second.alike(2, 0));
        // the first CELL's CISTERN is the second one
        DewBaron far = Check.isle("island 7 2;cistern a at 6 0;cistern b at 1 1;stone takes 1 at 6 1;cloth c takes 1 at 5 0;dew 1;");
        Check.due("none more", 0, far.alike(1, -1));
        Check.due("beside the second one", 0, far.alike(1, 0));
    }

    /** "by what comes BY DAWN of the NIGHT as told alone". */
    private static void alikeAsTold() {
        DewBaron x = Check.isle("island 7 2;cistern a at 0 0;cistern b at 6 0;stone takes 1 at 1 1;cloth c takes 1 at 1 0;dew takes;"
            + "drinks 3;");
        x.night();
        x.night();
        Check.due("what is in them counts for nothing", 0, x.alike(1, -1));
        Check.due("12 in each", 24, x.alike(1, 20));
        Check.due("across the middle", 4, x.alike(1, 0));
        x.hang(0, 5);
        Check.due("from where it hangs now as well", 4, x.alike(1, 0));
        x.wall(4, true);
        Check.due("with a wall there", 5, x.alike(1, 0));
        x.undo();
        Check.due("and without it again", 4, x.alike(1, 0));
    }

    private static void linen(DewBaron x, int drops, int cloths, int bits) {
        Check.due("linen " + drops + " 0", cloths, x.linen(drops, 0));
        Check.due("linen " + drops + " 1", bits, x.linen(drops, 1));
    }

    /** Promise 24: "for so many drops (0 and on)". */
    private static void linenOfNone() {
        linen(Check.isle(cloths("123")), 0, 0, 0);
        linen(Check.isle("island 2 2;"), 0, 0, 0);
        linen(Check.isle("island 2 2;"), 1, -1, -1);
        linen(Check.isle("island 2 2;cloth a takes 1 at 0 0;"), 0, 0, 0);
        linen(Check.isle("island 2 2;cloth a takes 1 at 0 0;"), 1, -1, -1);
        linen(Check.isle("island 2 2;stone takes 9 at 0 0;web takes 9 at 1 0;dew 9;"), 1, -1, -1);
    }

    /** "that have so many drops by dawn together, or more"; "NONE when all are too few". */
    private static void linenOfAll() {
        DewBaron x = Check.isle(cloths("123"));
        int[][] rows = {{1, 1, 1}, {11, 1, 1}, {12, 1, 1}, {13, 1, 2}, {24, 1, 2}, {25, 1, 4}, {36, 1, 4}, {37, 2, 5},
            {48, 2, 5}, {49, 2, 6}, {60, 2, 6}, {61, 3, 7}, {72, 3, 7}, {73, -1, -1}, {MAX, -1, -1}};
        for (int[] row : rows) {
            linen(x, row[0], row[1], row[2]);
        }
        DewBaron ten = Check.isle(cloths("1111111111").replace("dew takes", "dew 9999"));
        linen(ten, 1188, 1, 1);
        linen(ten, 1189, 2, 3);
        linen(ten, 11880, 10, 1023);
        linen(ten, 11879, 10, 1023);
        linen(ten, 11881, -1, -1);
        linen(ten, 10692, 9, 511);
    }

    /** "the fewest cloths ..; of like ones the least bits (cloths by their numbers among cloths)". */
    private static void linenOfLikeOnes() {
        DewBaron like = Check.isle(cloths("2222"));
        linen(like, 1, 1, 1);
        linen(like, 25, 2, 3);
        linen(like, 49, 3, 7);
        // one large one, the last, is fewer than all small ones, whose bits are less
        DewBaron one = Check.isle(cloths("1116"));
        linen(one, 36, 1, 8);
        linen(one, 73, 2, 9);
        linen(one, 85, 3, 11);
        DewBaron between = Check.isle("island 3 3;dew takes;stone takes 9 at 0 0;cloth a takes 1 at 1 0;web takes 9 at 2 0;"
            + "cloth b takes 2 at 0 1;");
        linen(between, 13, 1, 2);
        linen(between, 25, 2, 3);
        linen(between, 37, -1, -1);
    }

    /** Promise 24: "NONE when .. drops are below 0, or for others." */
    private static void linenOfOthers() {
        DewBaron x = Check.isle(cloths("123"));
        for (int what : new int[] {MIN, -1, 2, 3, MAX}) {
            Check.due("linen 0 " + what, -1, x.linen(0, what));
            Check.due("linen 12 " + what, -1, x.linen(12, what));
        }
        for (int drops : new int[] {MIN, -2, -1}) {
            linen(x, drops, -1, -1);
        }
    }

    /** Beside the cloth of the first CISTERN are two walls, beside that of the second one a wall. */
    private static final String DAMMED = "island 7 2;cistern a at 0 0;cistern b at 6 0;cloth c takes 1 at 1 0;"
        + "cloth d takes 1 at 6 1;wall at 2 0;wall at 2 1;wall at 5 1;";

    /** Promise 25: "NOTHING when there are none such." */
    private static void downOfThoseThatThereAre() {
        DewBaron x = Check.isle(DAMMED + "dew open;");
        Check.due("down 2 0", 12, x.down(2, 0));
        Check.due("down 2 1", 0, x.down(2, 1));
        Check.due("down 12 0", 0, x.down(12, 0));
        Check.due("down 12 1", 12, x.down(12, 1));
        for (int cistern : new int[] {MIN, -1, 2, 3, 5, MAX}) {
            Check.due("no CISTERN " + cistern, -1000000000, x.down(2, cistern));
        }
        for (int cell : new int[] {MIN, -1, 0, 1, 3, 6, 8, 13, 14, 42, MAX}) {
            Check.due("no wall in " + cell, -1000000000, x.down(cell, 0));
            Check.due("no wall in " + cell, -1000000000, x.down(cell, 1));
        }
        x.wall(3, true);
        Check.due("a wall that was built", 0, x.down(3, 0));
        x.wall(2, false);
        Check.due("one that was taken down", -1000000000, x.down(2, 0));
        Check.due("no CISTERNS", -1000000000, Check.isle("island 2 2;wall at 0 0;").down(0, 0));
        Check.due("no ACT by asking", 2, x.has(11));
        DewBaron last = Check.isle("island 7 6;wall at 6 5;wall at 0 0;cistern a at 5 5;cloth b takes 1 at 4 5;dew 1;");
        Check.due("the last CELL", 0, last.down(41, 0));
        Check.due("the first CELL", 0, last.down(0, 0));
    }

    /** "by how much a CISTERN gets more by dawn without a wall (less: below 0)". */
    private static void downMoreOrLess() {
        DewBaron less = Check.isle(DAMMED + "dew 8-open;");
        Check.due("less", -12, less.down(2, 0));
        Check.due("one less may be -1", -1, Check.isle(DAMMED + "dew max(0,2-hour)*(8-open);").down(2, 0));
        Check.due("one more", 1, Check.isle(DAMMED + "dew max(0,2-hour)*open;").down(2, 0));
        // without the wall its CELL gets COLD too, which flows down to the stone: one in each HOUR
        DewBaron cold = Check.isle("island 4 2;cistern a at 3 1;stone takes 1 at 0 0;height 5 at 1 0;height 1 at 1 1;"
            + "height 1 at 0 1;height 9 at 2 0;wall at 1 0;dew cold;");
        Check.due("as it is", 2 * 78, cold.cistern(0, 2));
        Check.due("by COLD", 78, cold.down(1, 0));
    }

    /** "BEST for a CISTERN: the wall by which it gets most more, if that is above 0". */
    private static void bestIfAboveZero() {
        Check.due("one drop is above 0", 2, Check.isle(DAMMED + "dew max(0,2-hour)*open;").best(0));
        Check.due("none more is not", -1, Check.isle(DAMMED + "dew 5;").best(0));
        Check.due("less is not", -1, Check.isle(DAMMED + "dew 8-open;").best(0));
        Check.due("no walls", -1, Check.isle("island 2 2;cistern a at 0 0;stone takes 1 at 1 0;dew open;").best(0));
        DewBaron x = Check.isle(DAMMED + "dew open;");
        Check.due("of the second one", 12, x.best(1));
        for (int cistern : new int[] {MIN, -1, 2, 3, 5, MAX}) {
            Check.due("no CISTERN " + cistern, -1, x.best(cistern));
        }
        DewBaron ends = Check.isle("island 2 2;cistern a at 1 0;stone takes 1 at 0 1;wall at 0 0;dew open;");
        Check.due("a wall in the first CELL", 0, ends.best(0));
        DewBaron last = Check.isle("island 2 2;cistern a at 1 0;stone takes 1 at 0 1;wall at 1 1;dew open;");
        Check.due("a wall in the last CELL", 3, last.best(0));
    }

    /** "most more ..; of like ones the first by CELLS". */
    private static void bestOfLikeOnes() {
        DewBaron x = Check.isle(DAMMED + "dew open;");
        Check.due("2 and 9 are alike", 2, x.best(0));
        x.wall(2, false);
        Check.due("then the other one", 9, x.best(0));
        x.wall(9, false);
        Check.due("then none", -1, x.best(0));
        // the later wall is beside two of its THINGS
        DewBaron two = Check.isle("island 5 3;cistern a at 0 0;stone takes 1 at 1 0;stone takes 1 at 2 2;stone takes 1 at 3 2;"
            + "wall at 2 0;wall at 2 1;wall at 4 1;dew open;");
        Check.due("beside one", 12, two.down(2, 0));
        Check.due("beside three", 36, two.down(7, 0));
        Check.due("beside one", 12, two.down(9, 0));
        Check.due("most more", 7, two.best(0));
        // told in another order than by CELLS
        DewBaron told = Check.isle("island 3 3;cistern a at 0 0;stone takes 1 at 1 1;wall at 2 2;wall at 0 2;wall at 2 0;dew open;");
        Check.due("the first by CELLS, not as told", 2, told.best(0));
    }

    /** "VOTES: CISTERNS that get more without a wall, and those that get less." */
    private static void votesForAndAgainst() {
        String text = "island 7 3;cistern a at 0 0;cistern b at 3 0;cistern d at 6 0;stone takes 1 at 0 2;stone takes 2 at 3 2;"
            + "stone takes 1 at 6 2;wall at 1 1;wall at 2 1;wall at 5 1;";
        DewBaron x = Check.isle(text + "dew takes*open;");
        int[][] due = {{8, 1, 0}, {9, 1, 0}, {12, 1, 0}};
        for (int[] row : due) {
            Check.due("for " + row[0], row[1], x.votes(row[0], 0));
            Check.due("against " + row[0], row[2], x.votes(row[0], 1));
        }
        DewBaron both = Check.isle("island 3 3;cistern a at 0 0;cistern b at 2 0;cistern d at 2 2;stone takes 1 at 0 1;"
            + "stone takes 2 at 2 1;wall at 1 1;dew (2-takes)*open+(takes-1)*(8-open);");
        Check.due("one for it", 1, both.votes(4, 0));
        Check.due("one against it, one without a vote", 1, both.votes(4, 1));
        DewBaron all = Check.isle("island 3 3;cistern a at 0 0;cistern b at 2 0;stone takes 1 at 0 1;stone takes 1 at 2 1;wall at 1 1;"
            + "dew max(0,2-hour)*open;");
        Check.due("two for it by a drop", 2, all.votes(4, 0));
        Check.due("none against it", 0, all.votes(4, 1));
        DewBaron less = Check.isle("island 3 3;cistern a at 0 0;cistern b at 2 0;stone takes 1 at 0 1;stone takes 1 at 2 1;wall at 1 1;"
            + "dew max(0,2-hour)*(8-open);");
        Check.due("none for it", 0, less.votes(4, 0));
        Check.due("two against it by a drop", 2, less.votes(4, 1));
        DewBaron like = Check.isle("island 3 3;cistern a at 0 0;stone takes 1 at 0 1;wall at 1 1;dew 7;");
        Check.due("alike: none for it", 0, like.votes(4, 0));
        Check.due("alike: none against it", 0, like.votes(4, 1));
        DewBaron five = Check.isle("island 5 2;cistern a at 0 0;cistern b at 1 0;cistern d at 2 0;cistern e at 3 0;cistern f at 4 0;"
            + "stone takes 1 at 1 1;stone takes 1 at 3 1;wall at 2 1;dew open;");
        Check.due("two of five", 2, five.votes(7, 0));
    }

    /** Promise 27: "NONE when there is none such, or for others." */
    private static void votesOfThoseThatThereAre() {
        DewBaron x = Check.isle(DAMMED + "dew open;");
        for (int cell : new int[] {MIN, -1, 0, 1, 3, 6, 13, 14, 42, MAX}) {
            Check.due("votes " + cell + " 0", -1, x.votes(cell, 0));
            Check.due("votes " + cell + " 1", -1, x.votes(cell, 1));
        }
        for (int what : new int[] {MIN, -1, 2, 3, MAX}) {
            Check.due("votes 2 " + what, -1, x.votes(2, what));
        }
        DewBaron none = Check.isle("island 2 2;wall at 0 0;wall at 1 1;");
        Check.due("without CISTERNS: none for it", 0, none.votes(0, 0));
        Check.due("without CISTERNS: none against it", 0, none.votes(3, 1));
    }

    private static int walks(DewBaron x, int... cells) {
        Check.put(x, cells);
        return x.walked();
    }

    /** "the CELLS (2 to 10)"; promise 28: "NONE, refused (5), .. when there are not 2 to 10". */
    private static void walkedOfTwoToTen() {
        // along the first row, then down its end: two ways, from either end
        int[] way = {0, 1, 2, 3, 4, 5, 6, 13, 20, 27, 34, 41};
        DewBaron x = Check.isle("island 7 6;");
        for (int n = 0; n <= 12; n++) {
            int[] cells = java.util.Arrays.copyOf(way, n);
            boolean can = n >= 2 && n <= 10;
            Check.due(n + " CELLS", can ? 2 : -1, walks(x, cells));
            Check.due(n + " CELLS: the tape went", false, x.end(1));
        }
        Check.due("status(5)", 4, x.status(5));
        for (int k = 0; k < 10; k++) {
            Check.due("the tenth CELL: " + k, way[k], x.walk(k));
        }
        Check.due("no eleventh one", -1, x.walk(10));
        int[] full = new int[1600];
        Check.due("all the tape", -1, walks(x, full));
    }

    /** Promise 28: "or one is none, or told twice". */
    private static void walkedOfCells() {
        for (int[] size : new int[][] {{2, 2}, {3, 4}, {7, 6}}) {
            int cells = size[0] * size[1];
            DewBaron x = Check.isle("island " + size[0] + " " + size[1] + ";");
            Check.due("the last two", 2, walks(x, cells - 1, cells - 2));
            for (int no : new int[] {cells, cells + 1, 128, 254, 255}) {
                Check.due("one is " + no, -1, walks(x, cells - 1, no));
                Check.due("the first is " + no, -1, walks(x, no, cells - 1));
            }
            Check.due("twice", -1, walks(x, 0, 0));
            Check.due("twice among others", -1, walks(x, 0, 1, 0));
            Check.due("twice at the end", -1, walks(x, 0, 1, 1));
        }
        DewBaron ten = Check.isle("island 7 6;");
        Check.due("the tenth is the first", -1, walks(ten, 0, 1, 2, 3, 4, 5, 6, 13, 20, 0));
        Check.due("the tenth is none", -1, walks(ten, 0, 1, 2, 3, 4, 5, 6, 13, 20, 42));
    }

    /** Promise 28: "all staying". */
    private static void walkedLeavesAll() {
        int[][] wrong = {{}, {0}, {7}, {7, 7}, {6, 7, 8, 6}, {8, 9}, {255, 6}, {0, 1, 2, 3, 4, 5, 6, 7, 8, 9, 10},
            {0, 1, 2, 3, 4, 5, 6, 7, 8, 0}};
        for (int[] cells : wrong) {
            Twins.stays("walked of " + java.util.Arrays.toString(cells), 5, x -> walks(x, cells) == -1);
        }
        Twins.stays("walked() without an island", 5, DewBaron::new, x -> walks(x, 0, 1) == -1);
        DewBaron x = Twins.busy();
        Check.due("none is no refusal", 0, walks(x, 3, 8));
        Check.due("so none is told now", -1, x.walk(0));
        Check.due("status(5)", 0, x.status(5));
    }

    /** "it begins in one at the island's edge". */
    private static void walksFromTheEdge() {
        DewBaron x = Check.isle("island 4 4;");
        for (int cell = 0; cell < 16; cell++) {
            boolean edge = cell < 4 || cell > 11 || cell % 4 == 0 || cell % 4 == 3;
            for (int next : new int[] {cell - 4, cell + 1, cell + 4, cell - 1}) {
                boolean isNext = next >= 0 && next < 16 && (next % 4 == cell % 4 || next / 4 == cell / 4);
                boolean nextAtEdge = next < 4 || next > 11 || next % 4 == 0 || next % 4 == 3;
                if (isNext) {
                    Check.due(cell + " and " + next, (edge ? 1 : 0) + (nextAtEdge ? 1 : 0), walks(x, cell, next));
                }
            }
        }
        Check.due("it may end within", 1, walks(x, 1, 5, 6));
        Check.due("from the one at the edge", 1, x.walk(0));
        Check.due("none from within", 0, walks(x, 5, 6, 9, 10));
        DewBaron thin = Check.isle("island 2 6;");
        Check.due("all are at the edge", 2, walks(thin, 0, 2, 4, 6, 8, 10));
    }

    /** "goes from each to one NEXT to it, and is in each of these once, in no other one". */
    private static void walksFromEachToOneNext() {
        DewBaron x = Check.isle("island 4 4;");
        Check.due("a corner is not NEXT", 0, walks(x, 0, 5));
        Check.due("a gap", 0, walks(x, 0, 2));
        Check.due("the next row", 0, walks(x, 3, 4));
        Check.due("the row below that", 0, walks(x, 0, 8));
        Check.due("a fork", 0, walks(x, 0, 1, 2, 5));
        Check.due("a square, from three at the edge", 6, walks(x, 2, 3, 6, 7));
        Check.due("a square in the corner of two by two", 8, walks(Check.isle("island 2 2;"), 0, 1, 2, 3));
        Check.due("two apart", 0, walks(x, 0, 1, 14, 15));
    }

    /** "(none is a wall)". */
    private static void noWalkOverAWall() {
        DewBaron x = Check.isle("island 4 4;wall at 0 0;wall at 3 3;house at 1 0;stone takes 1 at 2 0;cistern a at 3 0;");
        Check.due("the wall at one end", 0, walks(x, 0, 4));
        Check.due("the wall at the other end", 0, walks(x, 11, 15));
        Check.due("the wall between", 0, walks(x, 4, 0, 1));
        Check.due("beside it", 2, walks(x, 4, 8));
        Check.due("over a HOUSE, a THING, a CISTERN", 2, walks(x, 1, 2, 3));
        x.wall(0, false);
        Check.due("when it is taken down", 2, walks(x, 0, 4));
        x.wall(4, true);
        Check.due("one that was built", 0, walks(x, 0, 4));
        Check.due("that is no refusal", 0, x.status(5));
    }

    /** Promise 29: "the first one of the WALKS (by CELLS, one behind the other)". */
    private static void theFirstWalk() {
        DewBaron x = Check.isle("island 4 4;");
        first(x, new int[] {7, 6, 3, 2}, 2, 3, 7, 6);
        first(x, new int[] {6, 2, 7, 3}, 2, 3, 7, 6);
        first(x, new int[] {15, 14, 13, 12}, 12, 13, 14, 15);
        first(x, new int[] {5, 6, 7}, 7, 6, 5);
        first(x, new int[] {5, 4, 8, 9}, 4, 5, 9, 8);
        first(x, new int[] {1, 5, 9, 10}, 1, 5, 9, 10);
        // the walk from the least CELL may be none: 1 has but one neighbour, 5, and 4, 6 are on its sides
        first(x, new int[] {0, 1, 2, 6, 5, 4}, 0, 1, 2, 6, 5, 4);
        Check.due("a fork at the least CELL", 2, walks(x, 4, 0, 1, 2));
        Check.due("so from an end", 2, x.walk(0));
    }

    private static void first(DewBaron x, int[] cells, int... due) {
        Check.due("WALKS there are", true, walks(x, cells) > 0);
        for (int k = 0; k < due.length; k++) {
            Check.due("walk " + k + " of " + java.util.Arrays.toString(cells), due[k], x.walk(k));
        }
        Check.due("no more", -1, x.walk(due.length));
    }

    /** Promise 29: "NONE when there is none such." */
    private static void walkOfThoseThatThereAre() {
        DewBaron x = Check.isle("island 7 6;");
        Check.due("none is told", -1, x.walk(0));
        walks(x, 0, 1, 2);
        for (int k : new int[] {MIN, -1, 3, 4, 9, 10, MAX}) {
            Check.due("walk " + k, -1, x.walk(k));
        }
        Check.due("walk 2", 2, x.walk(2));
        walks(x, 40, 41);
        Check.due("the latest one", 40, x.walk(0));
        Check.due("it has two", -1, x.walk(2));
        walks(x, 0, 2);
        Check.due("no WALKS, so none such", -1, x.walk(0));
        Check.tell(x, "island 7 6;");
        Check.due("none is told of the new ISLAND", -1, x.walk(0));
    }

    /** A 2 by 2 island with a CISTERN in its last CELL; so many drops are in it. */
    private static DewBaron store(String text, int drops) {
        DewBaron x = Check.isle("island 2 2;cistern c at 1 1;" + text);
        Check.due("on", true, Check.on(x, Check.changed(Check.octets(x), 6, drops / 256, 7, drops % 256)));
        return x;
    }

    /** "the first NIGHT (from 1 on ..)". */
    private static void storesFromOneOn() {
        Check.due("nothing there, a drop is drunk", 1, store("drinks 1;", 0).stores(0));
        Check.due("one there", 2, store("drinks 1;", 1).stores(0));
        Check.due("two there", 3, store("drinks 1;", 2).stores(0));
        Check.due("999 are drunk of 998", 1, store("drinks 999;", 998).stores(0));
        Check.due("999 are drunk of 999", 2, store("drinks 999;", 999).stores(0));
    }

    /** "999 at most"; promise 30: "NONE when all give what is drunk for 999 NIGHTS". */
    private static void storesOf999() {
        int[][] rows = {{997, 998}, {998, 999}, {999, -1}, {1000, -1}};
        for (int[] row : rows) {
            DewBaron x = store("drinks 1;", row[0]);
            Check.due(row[0] + " drops", row[1], x.stores(0));
            Check.due(row[0] + " drops: which", row[1] < 0 ? -1 : 0, x.stores(1));
        }
        Check.due("9989 by ten", 999, store("drinks 10;", 9989).stores(0));
        Check.due("9990 by ten", -1, store("drinks 10;", 9990).stores(0));
        Check.due("nothing is drunk", -1, store("", 0).stores(0));
        Check.due("as much comes as is drunk", -1, store("web takes 1 at 0 0;dew 1;drinks 12;", 0).stores(0));
        Check.due("a drop less comes", 1, store("web takes 1 at 0 0;dew 1;drinks 13;", 0).stores(0));
        Check.due("a drop less comes each NIGHT, 997 are there", 998,
            store("web takes 1 at 0 0;dew 1;drinks 13;", 997).stores(0));
        Check.due("998 are there", 999, store("web takes 1 at 0 0;dew 1;drinks 13;", 998).stores(0));
        Check.due("999 are there", -1, store("web takes 1 at 0 0;dew 1;drinks 13;", 999).stores(0));
        // what is above 9999 is lost in the first NIGHT, which leaves 9976; eleven less each NIGHT, 10 behind the 907th
        Check.due("9999 at most", 908, store("web takes 1 at 0 0;dew 1;drinks 23;", 9999).stores(0));
    }

    /** Promise 30: "the first CISTERN that could not (1)". */
    private static void storesOfTheFirstCistern() {
        String text = "island 3 2;cistern a at 0 0;cistern b at 1 0;cistern d at 2 0;drinks 10;";
        int[][] rows = {{0, 0, 0, 1, 0}, {10, 0, 0, 1, 1}, {10, 10, 0, 1, 2}, {10, 10, 10, 2, 0}, {19, 20, 19, 2, 0},
            {20, 19, 19, 2, 1}, {20, 20, 19, 2, 2}, {30, 30, 25, 3, 2}, {9, 9, 10, 1, 0}};
        for (int[] row : rows) {
            DewBaron x = Check.isle(text);
            Check.due("on", true, Check.on(x, Check.changed(Check.octets(x), 9, row[0], 11, row[1], 13, row[2])));
            Check.due("the NIGHT", row[3], x.stores(0));
            Check.due("the CISTERN", row[4], x.stores(1));
        }
        Check.due("no CISTERNS", -1, Check.isle("island 2 2;drinks 999;").stores(0));
        Check.due("no CISTERNS: which", -1, Check.isle("island 2 2;drinks 999;").stores(1));
    }

    /** "by which a CISTERN could not give all that is drunk": what comes by that dawn is there already. */
    private static void storesOfAllThatIsDrunk() {
        DewBaron x = store("web takes 1 at 0 0;dew 1;drinks 15;", 6);
        int[] left = {3, 0};
        Check.due("18, 15, then 12", 3, x.stores(0));
        for (int due : left) {
            x.night();
            Check.due("left", due, x.cistern(0, 1));
        }
        Check.due("the next one", 1, x.stores(0));
        x.night();
        Check.due("all that it had was given", 0, x.cistern(0, 1));
    }

    /** "from now on, NIGHT by NIGHT under the sky as told". */
    private static void storesFromNowOn() {
        DewBaron x = store("web takes 1 at 0 0;sky oooooooooooo;dew 1-cloud;drinks 10;cloudy 0;", 55);
        Check.due("five NIGHTS last", 6, x.stores(0));
        Check.due("no NIGHT went by", 0, x.has(10));
        Check.due("no drop is gone", 55, x.cistern(0, 1));
        Check.due("no ACT", 0, x.has(11));
        x.night();
        Check.due("from now on", 5, x.stores(0));
        x.nights(1);
        Check.due("twelve came by the seed, ten were drunk", 5, x.stores(0));
        x.undo();
        x.undo();
        Check.due("undone", 6, x.stores(0));
        DewBaron old = Check.isle("island 2 2;cistern c at 1 1;drinks 1;");
        Check.due("on", true, Check.on(old, Check.changed(Check.octets(old), 0, 39, 1, 15, 7, 3)));
        Check.due("behind 9999 NIGHTS as well", 4, old.stores(0));
    }

    private static void storesOfOthers() {
        DewBaron x = store("drinks 1;", 0);
        Check.due("the NIGHT", 1, x.stores(0));
        Check.due("the CISTERN", 0, x.stores(1));
        for (int what : new int[] {MIN, -1, 2, 3, 20, MAX}) {
            Check.due("stores " + what, -1, x.stores(what));
        }
    }
}
