/** Terms II and promises 8 to 14 at their edges, sentence by sentence: CELLS, THINGS, CISTERNS, COLD, SUMS, dew. */
final class EdgesOfNightTest {
    private static final int[] FAR = {Integer.MIN_VALUE, -2, -1, 42, 1000, Integer.MAX_VALUE};

    public static void main(String[] args) {
        cellsThatThereAre();
        whatIsInACell();
        howOpen();
        offTheIslandCounts();
        housesNextToIt();
        theSun();
        coldOfAnHour();
        coldOfClearHoursAlone();
        noColdInWalls();
        coldFlowsToTheLowest();
        ofLikeOnesTheFirst();
        nothingFlowsToLikeHeights();
        coldFlowsAllTheWayAtOnce();
        dewOfAnHour();
        dewIs0To99();
        driesWhatIsOnItAtMost();
        dryAtTheBeginning();
        factsOfASum();
        resultsWithinAMillion();
        byZero();
        wholeNumbersNotAbove();
        fromTheLeftOn();
        minAndMax();
        thingsThatThereAre();
        thingsAsTheyAreTold();
        theNearestCistern();
        withoutCisterns();
        cisternsThatThereAre();
        hoursOfTheSky();
        theHourInWhichMostCame();
        theThingWithMost();
        wholeOfNothing();
        asToldWhateverTheSeed();
        Check.end();
    }

    /** 1 in this HOUR, 0 in all others. */
    private static String at(int hour) {
        return "max(0,1-max(hour-" + hour + "," + hour + "-hour))";
    }

    /** Promise 8: "NONE when there is none such, or for others." */
    private static void cellsThatThereAre() {
        int[][] sizes = {{2, 2}, {7, 6}, {2, 6}, {7, 2}};
        for (int[] size : sizes) {
            DewBaron x = Check.isle("island " + size[0] + " " + size[1] + ";");
            int cells = size[0] * size[1];
            int[] due = {0, 0, 8, 0, 0};
            for (int what = 0; what < 5; what++) {
                for (int cell : new int[] {0, cells - 1}) {
                    Check.due("cell " + cell + " " + what, due[what], x.cell(cell, what));
                }
                Check.due("the first that is none " + what, -1, x.cell(cells, what));
                for (int no : FAR) {
                    Check.due("cell " + no + " " + what, -1, x.cell(no, what));
                }
            }
            for (int no : new int[] {Integer.MIN_VALUE, -1, 5, 6, Integer.MAX_VALUE}) {
                Check.due("cell 0 " + no, -1, x.cell(0, no));
                Check.due("the last cell " + no, -1, x.cell(cells - 1, no));
            }
        }
    }

    /** Promise 8: "1 what is in it (0 nothing, 1 a wall, 2 a HOUSE, 3 a THING, 4 a CISTERN)", as it is now. */
    private static void whatIsInACell() {
        DewBaron x = Check.isle("island 4 2;wall at 1 0;house at 2 0;cloth a takes 1 at 3 0;stone takes 1 at 0 1;"
            + "web takes 1 at 1 1;cistern b at 2 1;");
        int[] due = {0, 1, 2, 3, 3, 3, 4, 0};
        for (int cell = 0; cell < 8; cell++) {
            Check.due("in " + cell, due[cell], x.cell(cell, 1));
        }
        x.hang(0, 7);
        Check.due("it hung here", 0, x.cell(3, 1));
        Check.due("it hangs here", 3, x.cell(7, 1));
        x.wall(3, true);
        x.wall(1, false);
        Check.due("built", 1, x.cell(3, 1));
        Check.due("taken down", 0, x.cell(1, 1));
    }

    /** "OPEN a CELL is by as many of the 8 CELLS around it as are not walls". */
    private static void howOpen() {
        DewBaron x = Check.isle("island 3 3;");
        int[] around = {8, 0, 5, 1, 7, 2, 6, 3};
        Check.due("no walls", 8, x.cell(4, 2));
        for (int i = 0; i < around.length; i++) {
            x.wall(around[i], true);
            Check.due("walls: " + (i + 1), 7 - i, x.cell(4, 2));
        }
        x.wall(4, true);
        Check.due("a wall in the CELL itself is not around it", 0, x.cell(4, 2));
        for (int i = 0; i < around.length; i++) {
            x.wall(around[i], false);
            Check.due("walls taken down: " + (i + 1), i + 1, x.cell(4, 2));
        }
        DewBaron far = Check.isle("island 5 5;wall at 0 0;wall at 2 0;wall at 4 0;wall at 0 2;wall at 4 2;wall at 0 4;"
            + "wall at 2 4;wall at 4 4;wall at 1 0;wall at 3 4;");
        Check.due("walls two steps away", 8, far.cell(12, 2));
        DewBaron full = Check.isle("island 3 3;house at 0 0;cistern a at 1 0;cloth b takes 1 at 2 0;stone takes 1 at 0 1;"
            + "web takes 1 at 2 1;");
        Check.due("other things are no walls", 8, full.cell(4, 2));
    }

    /** "(off the island counts)". */
    private static void offTheIslandCounts() {
        DewBaron x = Check.isle("island 3 3;wall at 1 0;wall at 0 1;wall at 1 1;wall at 2 1;wall at 1 2;");
        int[] due = {5, 5, 5, 5, 4, 5, 5, 5, 5};
        for (int cell = 0; cell < 9; cell++) {
            Check.due("how open " + cell, due[cell], x.cell(cell, 2));
        }
        // the end of one row and the beginning of the next one are not side by side
        DewBaron rows = Check.isle("island 3 4;wall at 2 0;wall at 0 2;");
        int[] then = {8, 7, 8, 7, 6, 7, 8, 7, 8, 7, 7, 8};
        for (int cell = 0; cell < 12; cell++) {
            Check.due("rows: how open " + cell, then[cell], rows.cell(cell, 2));
        }
    }

    /** "NEXT to a CELL are those above, to the right, below, to the left of it"; promise 8: "3 how many HOUSES are NEXT to it". */
    private static void housesNextToIt() {
        String[] houses = {"house at 1 0;", "house at 2 1;", "house at 1 2;", "house at 0 1;"};
        for (int bits = 0; bits < 16; bits++) {
            StringBuilder text = new StringBuilder("island 3 3;");
            for (int i = 0; i < 4; i++) {
                text.append((bits >> i & 1) == 1 ? houses[i] : "");
            }
            Check.due("HOUSES by bits " + bits, Integer.bitCount(bits), Check.isle(text.toString()).cell(4, 3));
        }
        DewBaron corners = Check.isle("island 3 3;house at 0 0;house at 2 0;house at 0 2;house at 2 2;house at 1 1;");
        Check.due("neither at its corners nor in itself", 0, corners.cell(4, 3));
        Check.due("between two and one", 3, corners.cell(1, 3));
        DewBaron rows = Check.isle("island 3 2;house at 2 0;");
        int[] due = {0, 1, 0, 0, 0, 1};
        for (int cell = 0; cell < 6; cell++) {
            Check.due("rows: HOUSES NEXT to " + cell, due[cell], rows.cell(cell, 3));
        }
    }

    /** "its SUN .. (10 minutes for each wall to the right of it in its row)". */
    private static void theSun() {
        DewBaron x = Check.isle("island 7 2;wall at 1 0;wall at 2 0;wall at 3 0;wall at 4 0;wall at 5 0;wall at 6 0;");
        for (int cell = 0; cell < 7; cell++) {
            Check.due("the SUN of " + cell, 60 - 10 * cell, x.cell(cell, 4));
            Check.due("the SUN of the other row " + cell, 0, x.cell(7 + cell, 4));
        }
        DewBaron y = Check.isle("island 4 3;wall at 0 1;wall at 2 1;wall at 3 0;wall at 0 2;");
        int[] due = {10, 10, 10, 0, 10, 10, 0, 0, 0, 0, 0, 0};
        for (int cell = 0; cell < 12; cell++) {
            Check.due("the SUN of " + cell, due[cell], y.cell(cell, 4));
        }
        DewBaron z = Check.isle("island 4 2;house at 1 0;stone takes 1 at 2 0;cistern a at 3 0;");
        Check.due("other things are no walls", 0, z.cell(0, 4));
    }

    /** Promise 12: "COLD of a CELL behind an HOUR (0 .. 12); NONE when there are none such." "COLD of all CELLS is 0 ahead of it." */
    private static void coldOfAnHour() {
        DewBaron x = Check.isle("island 3 2;height 1 at 0 0;");
        int[] flowing = {0, 2, 1, 1, 1, 1};
        for (int cell = 0; cell < 6; cell++) {
            for (int hour = 0; hour <= 12; hour++) {
                Check.due("cold " + cell + " " + hour, flowing[cell] * hour, x.cold(cell, hour));
            }
            for (int no : new int[] {Integer.MIN_VALUE, -1, 13, 14, Integer.MAX_VALUE}) {
                Check.due("cold " + cell + " " + no, -1, x.cold(cell, no));
            }
        }
        for (int hour = 0; hour <= 12; hour++) {
            Check.due("cold 6 " + hour, -1, x.cold(6, hour));
            for (int no : FAR) {
                Check.due("cold " + no + " " + hour, -1, x.cold(no, hour));
            }
        }
        x.night();
        x.nights(2);
        Check.due("0 ahead of each NIGHT", 0, x.cold(1, 0));
        Check.due("and no more than that of one", 24, x.cold(1, 12));
    }

    /** "In an HOUR that is clear each CELL without a wall gets 1 COLD". */
    private static void coldOfClearHoursAlone() {
        for (String letter : new String[] {"o", "w", "s"}) {
            DewBaron x = Check.isle("island 2 2;sky " + letter.repeat(12) + ";");
            Check.due("none by " + letter, 0, x.cold(0, 12));
            for (int hour = 1; hour <= 12; hour++) {
                String sky = letter.repeat(hour - 1) + "c" + letter.repeat(12 - hour);
                DewBaron y = Check.isle("island 2 2;height 1 at 0 0;height 1 at 1 1;sky " + sky + ";");
                Check.due("none ahead of HOUR " + hour, 0, y.cold(1, hour - 1));
                Check.due("by HOUR " + hour, 3, y.cold(1, hour));
                Check.due("it stays", 3, y.cold(1, 12));
            }
        }
        DewBaron x = Check.isle("island 2 2;sky oc;");
        int[] due = {0, 0, 1, 2, 3, 4, 5, 6, 7, 8, 9, 10, 11};
        for (int hour = 0; hour <= 12; hour++) {
            Check.due("clear behind the LETTERS: " + hour, due[hour], x.cold(3, hour));
        }
    }

    private static void noColdInWalls() {
        DewBaron x = Check.isle("island 3 2;wall at 0 0;height 9 at 0 0;height 5 at 1 0;wall at 1 1;");
        int[] due = {0, 0, 2, 1, 0, 1};
        for (int cell = 0; cell < 6; cell++) {
            Check.due("walls have and give none: " + cell, due[cell], x.cold(cell, 1));
        }
        x.wall(0, false);
        x.wall(1, true);
        int[] then = {0, 0, 1, 2, 0, 1};
        for (int cell = 0; cell < 6; cell++) {
            Check.due("walls of now: " + cell, then[cell], x.cold(cell, 1));
        }
    }

    /** "all COLD of a CELL flows to the lowest CELL NEXT to it that has no wall and is lower than it". */
    private static void coldFlowsToTheLowest() {
        String text = "island 3 3;height 9 at 0 0;height 4 at 1 0;height 9 at 2 0;height 1 at 0 1;height 9 at 1 1;"
            + "height 3 at 2 1;height 9 at 0 2;height 2 at 1 2;height 9 at 2 2;";
        colds("to the left", text, 0, 1, 0, 4, 0, 2, 0, 2, 0);
        colds("then below", text + "wall at 0 1;", 0, 2, 0, 0, 0, 2, 0, 4, 0);
        colds("then right", text + "wall at 0 1;wall at 1 2;", 0, 2, 0, 0, 0, 4, 1, 0, 0);
        colds("then above", text + "wall at 0 1;wall at 1 2;wall at 2 1;", 0, 4, 0, 0, 0, 0, 1, 0, 1);
        colds("then nowhere", text + "wall at 0 1;wall at 1 2;wall at 2 1;wall at 1 0;", 1, 0, 1, 0, 1, 0, 1, 0, 1);
    }

    private static void colds(String why, String text, int... due) {
        DewBaron x = Check.isle(text);
        for (int cell = 0; cell < due.length; cell++) {
            Check.due(why + ": " + cell, due[cell], x.cold(cell, 1));
            Check.due(why + ": " + cell + " by dawn", 12 * due[cell], x.cold(cell, 12));
        }
    }

    /** "(of like ones the first)", by "above, to the right, below, to the left of it, in that order". */
    private static void ofLikeOnesTheFirst() {
        String text = "island 3 3;height 5 at 1 1;";
        colds("above", text, 1, 2, 1, 1, 0, 1, 1, 1, 1);
        colds("right", text + "wall at 1 0;", 1, 0, 1, 1, 0, 2, 1, 1, 1);
        colds("below", text + "wall at 1 0;wall at 2 1;", 1, 0, 1, 1, 0, 0, 1, 2, 1);
        colds("left", text + "wall at 1 0;wall at 2 1;wall at 1 2;", 1, 0, 1, 2, 0, 0, 1, 0, 1);
        colds("right, not left", text + "wall at 1 0;wall at 1 2;", 1, 0, 1, 1, 0, 2, 1, 0, 1);
        colds("above, not below", text + "wall at 0 1;wall at 2 1;", 1, 2, 1, 0, 0, 0, 1, 1, 1);
        colds("below, not left", text + "wall at 1 0;wall at 2 1;height 0 at 0 1;", 1, 0, 1, 1, 0, 0, 1, 2, 1);
    }

    /** "is lower than it". */
    private static void nothingFlowsToLikeHeights() {
        colds("all at 5", "island 2 2;height 5 at 0 0;height 5 at 1 0;height 5 at 0 1;height 5 at 1 1;", 1, 1, 1, 1);
        colds("the corner is not NEXT", "island 2 2;height 5 at 0 0;height 5 at 1 0;height 5 at 0 1;height 4 at 1 1;",
            1, 0, 0, 3);
        // the middle one and what is NEXT to it are at 5; each corner by turns is lower, and has its two neighbours' COLD
        String cross = "island 3 3;height 5 at 1 1;height 5 at 1 0;height 5 at 2 1;height 5 at 1 2;height 5 at 0 1;";
        String[] corners = {" at 0 0;", " at 2 0;", " at 0 2;", " at 2 2;"};
        int[][] due = {{3, 0, 1, 0, 1, 1, 1, 1, 1}, {1, 0, 3, 1, 1, 0, 1, 1, 1}, {1, 1, 1, 0, 1, 1, 3, 0, 1},
            {1, 1, 1, 1, 1, 0, 1, 0, 3}};
        for (int low = 0; low < 4; low++) {
            StringBuilder text = new StringBuilder(cross);
            for (int corner = 0; corner < 4; corner++) {
                text.append(corner == low ? "height 4" : "height 5").append(corners[corner]);
            }
            colds("a corner is not NEXT: " + corners[low], text.toString(), due[low]);
        }
        colds("nor is the next row", "island 3 2;height 1 at 0 0;height 1 at 1 0;height 1 at 2 0;height 1 at 1 1;"
            + "height 1 at 2 1;", 0, 1, 1, 3, 0, 1);
        colds("nothing goes up", "island 2 2;height 9 at 0 0;", 0, 2, 1, 1);
    }

    /** "from the highest CELLS to the lowest": what flows into a CELL flows on with it in the same HOUR. */
    private static void coldFlowsAllTheWayAtOnce() {
        String walls = "wall at 0 1;wall at 1 1;wall at 2 1;wall at 3 1;";
        colds("to the right", "island 4 2;height 9 at 0 0;height 5 at 1 0;height 1 at 2 0;" + walls,
            0, 0, 0, 4, 0, 0, 0, 0);
        colds("to the left", "island 4 2;height 9 at 3 0;height 5 at 2 0;height 1 at 1 0;" + walls,
            4, 0, 0, 0, 0, 0, 0, 0);
        colds("from both ends", "island 4 2;height 9 at 3 0;height 5 at 2 0;height 1 at 0 0;" + walls,
            0, 4, 0, 0, 0, 0, 0, 0);
        // 9 to 3 along the first row, 2 and 1 down its end, then back to 0: walls bar every shorter way
        colds("nine steps", "island 7 3;height 9 at 0 0;height 8 at 1 0;height 7 at 2 0;height 6 at 3 0;height 5 at 4 0;"
            + "height 4 at 5 0;height 3 at 6 0;height 2 at 6 1;height 1 at 6 2;wall at 0 1;wall at 1 1;wall at 2 1;"
            + "wall at 3 1;wall at 4 1;wall at 5 1;wall at 0 2;wall at 1 2;wall at 2 2;wall at 3 2;wall at 4 2;",
            0, 0, 0, 0, 0, 0, 0, 0, 0, 0, 0, 0, 0, 0, 0, 0, 0, 0, 0, 10, 0);
    }

    /** Promise 13: "Of a THING in an HOUR (1 .. 12): .. NONE when there are none such, or for others." */
    private static void dewOfAnHour() {
        DewBaron x = Check.isle("island 2 2;web takes 3 at 0 0;stone takes 5 at 1 1;dew takes+hour;dries 2;");
        for (int hour = 1; hour <= 12; hour++) {
            int wet = 0;
            for (int before = 1; before <= hour; before++) {
                wet += 3 + before - 2;
            }
            Check.due("came in " + hour, 3 + hour, x.dew(0, hour, 0));
            Check.due("dried in " + hour, 2, x.dew(0, hour, 1));
            Check.due("lies behind " + hour, wet, x.dew(0, hour, 2));
            Check.due("came on the other in " + hour, 5 + hour, x.dew(1, hour, 0));
            for (int no : new int[] {Integer.MIN_VALUE, -1, 3, 4, Integer.MAX_VALUE}) {
                Check.due("dew 0 " + hour + " " + no, -1, x.dew(0, hour, no));
            }
            for (int no : new int[] {Integer.MIN_VALUE, -1, 2, 3, 10, Integer.MAX_VALUE}) {
                Check.due("dew " + no + " " + hour, -1, x.dew(no, hour, 0));
            }
        }
        for (int what = 0; what < 3; what++) {
            for (int no : new int[] {Integer.MIN_VALUE, -1, 0, 13, 14, Integer.MAX_VALUE}) {
                Check.due("dew 0 " + no + " " + what, -1, x.dew(0, no, what));
            }
        }
    }

    private static void sum(String sum, int due) {
        DewBaron x = Check.isle("island 2 2;stone takes 1 at 0 0;dew " + sum + ";");
        Check.due(sum, due, x.dew(0, 1, 0));
    }

    /** "its SUM, 0 .. 99 (below is 0, above 99; 0 without dew)". */
    private static void dewIs0To99() {
        sum("0", 0);
        sum("1", 1);
        sum("0-1", 0);
        sum("0-9999", 0);
        sum("98", 98);
        sum("99", 99);
        sum("100", 99);
        sum("101", 99);
        sum("9999*9999", 99);
        sum("(0-9999)*9999", 0);
        DewBaron x = Check.isle("island 2 2;stone takes 1 at 0 0;cistern c at 1 1;dew 9999;");
        Check.due("as much as can be by dawn", 1188, x.thing(0, 4));
        Check.due("as much as can come", 1188, x.whole(0));
        DewBaron dry = Check.isle("island 2 2;stone takes 9 at 0 0;dries 1;");
        for (int hour = 1; hour <= 12; hour++) {
            Check.due("without dew: " + hour, 0, dry.dew(0, hour, 0));
        }
        DewBaron around = Check.isle("island 2 2;stone takes 1 at 0 0;dew 95+hour;");
        int[] due = {96, 97, 98, 99, 99, 99};
        for (int hour = 1; hour <= 6; hour++) {
            Check.due("95 and " + hour, due[hour - 1], around.dew(0, hour, 0));
        }
        DewBaron below = Check.isle("island 2 2;stone takes 1 at 0 0;dew 3-hour;");
        int[] less = {2, 1, 0, 0, 0, 0};
        for (int hour = 1; hour <= 6; hour++) {
            Check.due("3 less " + hour, less[hour - 1], below.dew(0, hour, 0));
        }
    }

    /** "then it dries: its SUM, 0 .. what is on it (0 without dries)". */
    private static void driesWhatIsOnItAtMost() {
        int[][] rows = {{4, 4, 1}, {5, 5, 0}, {6, 5, 0}, {9999, 5, 0}, {0, 0, 5}, {1, 1, 4}};
        for (int[] row : rows) {
            DewBaron x = Check.isle("island 2 2;stone takes 1 at 0 0;dew 5*" + at(1) + ";dries " + row[0] + ";");
            Check.due(row[0] + " dry of five", row[1], x.dew(0, 1, 1));
            Check.due(row[0] + " leave", row[2], x.dew(0, 1, 2));
            Check.due("no more is there than dries", Math.min(row[2], row[0]), x.dew(0, 2, 1));
        }
        DewBaron below = Check.isle("island 2 2;stone takes 1 at 0 0;dew 5;dries 0-1;");
        Check.due("below 0 is 0", 0, below.dew(0, 1, 1));
        Check.due("nothing is made by it", 60, below.thing(0, 4));
        DewBaron without = Check.isle("island 2 2;stone takes 1 at 0 0;dew 5;");
        for (int hour = 1; hour <= 12; hour++) {
            Check.due("without dries: " + hour, 0, without.dew(0, hour, 1));
        }
        // more than 99 can dry, of what came in the HOURS before
        DewBaron late = Check.isle("island 2 2;stone takes 1 at 0 0;dew 99;dries 9999*" + at(12) + ";");
        Check.due("all of twelve HOURS", 1188, late.dew(0, 12, 1));
        Check.due("none by dawn", 0, late.thing(0, 4));
        DewBaron none = Check.isle("island 2 2;stone takes 1 at 0 0;dries 9;");
        Check.due("nothing dries of nothing", 0, none.dew(0, 12, 1));
    }

    /** "(At the beginning of a NIGHT all are dry.)"; "how many drops are on it ahead of what is asked". */
    private static void dryAtTheBeginning() {
        DewBaron x = Check.isle("island 2 2;stone takes 1 at 0 0;cistern c at 1 1;dew wet+1;dries wet-6;");
        int[][] due = {{1, 0, 1}, {2, 0, 3}, {4, 1, 6}, {7, 7, 6}, {7, 7, 6}};
        for (int i = 0; i < 3; i++) {
            for (int hour = 1; hour <= 5; hour++) {
                for (int what = 0; what < 3; what++) {
                    Check.due("wet in " + hour + " " + what, due[hour - 1][what], x.dew(0, hour, what));
                }
            }
            Check.due("each NIGHT alike", 6, i == 1 ? x.nights(1) : x.night());
        }
        Check.due("by the seed", 18, x.nights(3));
    }

    /** "Of a THING in an HOUR: what it takes; how open its CELL is; its height; the COLD there then; the HOUR; .." */
    private static void factsOfASum() {
        fact("takes", 9, "stone takes 9 at 0 0;", 1);
        fact("takes", 1, "stone takes 1 at 0 0;", 12);
        fact("open", 8, "stone takes 1 at 0 0;", 1);
        fact("open", 5, "stone takes 1 at 0 0;wall at 1 0;wall at 0 1;wall at 1 1;", 1);
        fact("high", 0, "stone takes 1 at 0 0;", 1);
        fact("high", 9, "stone takes 1 at 0 0;height 9 at 0 0;", 1);
        fact("cold", 1, "stone takes 1 at 0 0;", 1);
        fact("cold", 12, "stone takes 1 at 0 0;", 12);
        fact("cold", 0, "stone takes 1 at 0 0;sky o;", 1);
        fact("cold", 1, "stone takes 1 at 0 0;sky o;", 2);
        fact("cold", 0, "stone takes 1 at 0 0;height 1 at 0 0;", 12);
        fact("cold", 24, "stone takes 1 at 0 0;height 1 at 0 1;", 12);
        fact("hour", 1, "stone takes 1 at 0 0;", 1);
        fact("hour", 12, "stone takes 1 at 0 0;", 12);
        fact("near", 0, "stone takes 1 at 0 0;house at 1 1;", 1);
        fact("near", 2, "stone takes 1 at 0 0;house at 1 0;house at 0 1;", 1);
        String[] skies = {"cloud", "wind", "smoke"};
        for (int i = 0; i < 3; i++) {
            for (int hour = 1; hour <= 12; hour++) {
                for (int j = 0; j < 4; j++) {
                    String sky = "c".repeat(hour - 1) + "cows".charAt(j);
                    fact(skies[i], j == i + 1 ? 1 : 0, "stone takes 1 at 0 0;sky " + sky + ";", hour);
                }
            }
        }
        // of its CELL of now
        DewBaron x = Check.isle("island 3 2;cloth a takes 1 at 0 0;height 7 at 2 1;house at 1 1;wall at 2 0;"
            + "dew open*100/10+near*5+high-40;");
        Check.due("where it hung", 80 - 40, x.dew(0, 1, 0));
        x.hang(0, 5);
        Check.due("where it hangs", 70 + 5 + 7 - 40, x.dew(0, 1, 0));
        x.wall(2, false);
        Check.due("with no wall by it", 80 + 5 + 7 - 40, x.dew(0, 1, 0));
    }

    private static void fact(String fact, int due, String land, int hour) {
        DewBaron x = Check.isle("island 3 3;" + land + "dew " + fact + ";");
        Check.due(fact + " of " + land, due, x.dew(0, hour, 0));
        DewBaron y = Check.isle("island 3 3;" + land + "dew 99;dries " + fact + ";");
        Check.due(fact + " to dry, of " + land, due, y.dew(0, hour, 1));
    }

    /** "each result above 10 to the 6 is that, below -10 to the 6 likewise". */
    private static void resultsWithinAMillion() {
        sum("1000*1000-999*1000-990", 10);
        sum("1000*1000-1+1-999*1000-990", 10);
        sum("1000*1000-1-999*1000-990", 9);
        sum("1000*1000+1-999*1000-990", 10);
        sum("1000*1000+9999-999*1000-990", 10);
        sum("1001*1000-999*1000-990", 10);
        sum("9999*9999-999*1000-990", 10);
        sum("9999*9999*9999*9999*9999*9999-999*1000-990", 10);
        sum("1000*1000*2-999*1000-990", 10);
        sum("0-1000*1000+999*1000+1010", 10);
        sum("0-1000*1000+1-1+999*1000+1010", 10);
        sum("0-1000*1000+1+999*1000+1010", 11);
        sum("0-1000*1000-1+999*1000+1010", 10);
        sum("(0-1001)*1000+999*1000+1010", 10);
        sum("(0-9999)*9999*9999*9999+999*1000+1010", 10);
        sum("(0-9999)*9999*(0-9999)-999*1000-990", 10);
        sum("0-1000*1000-1000*1000+999*1000+1010", 10);
        sum("min(1000*1001,9999*9999)-999*1000-990", 10);
        sum("max((0-1000)*1001,(0-9999)*9999)+999*1000+1010", 10);
        sum("(1000*1000+5)/1-999*1000-990", 10);
        sum("1000*1000/(0-1)+999*1000+1010", 10);
        sum("(0-1000*1000-5)/(0-1)-999*1000-990", 10);
        sum("(1000*1000+6)%7", 1);
        sum("5%(1000*1000+6)", 5);
        sum("(0-5)%(1000*1000+6)-999*1000-990", 5);
    }

    /** "by 0 both give 0". */
    private static void byZero() {
        for (String sign : new String[] {"/", "%"}) {
            sum("7" + sign + "0+3", 3);
            sum("0" + sign + "0+3", 3);
            sum("(0-7)" + sign + "0+3", 3);
            sum("9999*9999" + sign + "0+3", 3);
            sum("7" + sign + "(5-5)+3", 3);
            sum("7" + sign + "wet+3", 3);
            sum("7" + sign + "0*5+3", 3);
            sum("7" + sign + "0" + sign + "0+3", 3);
            sum("0" + sign + "7+3", 3);
        }
    }

    /** "/ gives the greatest whole number not above, % what is left (a less b times that)". */
    private static void wholeNumbersNotAbove() {
        int[][] rows = {{6, 3}, {7, 3}, {8, 3}, {9, 3}, {2, 3}, {0, 3}, {1, 1}, {5, 9999}, {9999, 9999}};
        for (int[] row : rows) {
            for (int signs = 0; signs < 4; signs++) {
                int a = signs % 2 == 0 ? row[0] : -row[0];
                int b = signs < 2 ? row[1] : -row[1];
                String left = signs % 2 == 0 ? "" + row[0] : "(0-" + row[0] + ")";
                String right = signs < 2 ? "" + row[1] : "(0-" + row[1] + ")";
                int quotient = (int) Math.floor((double) a / b);
                sum(left + "/" + right + "+50", quotient + 50);
                sum(left + "%" + right + "+50", Math.max(0, Math.min(99, a - b * quotient + 50)));
            }
        }
        sum("(0-7)/2+10", 6);
        sum("7/(0-2)+10", 6);
        sum("(0-7)/(0-2)", 3);
        sum("(0-7)%2", 1);
        sum("7%(0-2)+10", 9);
        sum("(0-7)%(0-2)+10", 9);
        sum("(0-1)/9999+10", 9);
        sum("1/9999+10", 10);
    }

    /** "All from the left on". */
    private static void fromTheLeftOn() {
        sum("9-3-2", 4);
        sum("9-3+2", 8);
        sum("9-(3+2)", 4);
        sum("40/4/2", 5);
        sum("40/4*2", 20);
        sum("40/(4*2)", 5);
        sum("17%10%4", 3);
        sum("17%10*4", 28);
        sum("3*17%10", 1);
        sum("3*(17%10)", 21);
        sum("7/2*2", 6);
        sum("2*7/2", 7);
        sum("2+3*4-5", 9);
        sum("2*3+4*5", 26);
        sum("20-2*3-4", 10);
        sum("(20-2)*3-4", 50);
        sum("20-7%4+1", 18);
        sum("1000*1000*1000/1000/1000+0", 1);
    }

    private static void minAndMax() {
        sum("min(3,4)", 3);
        sum("min(4,3)", 3);
        sum("min(3,3)", 3);
        sum("max(3,4)", 4);
        sum("max(4,3)", 4);
        sum("max(4,4)", 4);
        sum("min(0-3,2)+10", 7);
        sum("max(0-3,0-2)+10", 8);
        sum("9-min(3,4)*2", 3);
        sum("max(min(1,2),min(4,3))", 3);
        sum("(min(1+1,5)+max(2*2,3))*2", 12);
    }

    /** Promise 9: "NONE when there is none such, or for others." */
    private static void thingsThatThereAre() {
        DewBaron x = Check.isle("island 7 6;cistern q at 6 5;stone takes 1 at 0 0;web takes 2 at 1 0;cloth a takes 3 at 2 0;"
            + "stone takes 4 at 3 0;web takes 5 at 4 0;cloth b takes 6 at 5 0;stone takes 7 at 6 0;web takes 8 at 0 1;"
            + "cloth c takes 9 at 1 1;stone takes 1 at 2 1;dew takes;");
        for (int thing = 0; thing < 10; thing++) {
            int[] due = {thing, thing % 9 + 1, (thing + 1) % 3, 0, 12 * (thing % 9 + 1)};
            for (int what = 0; what < 5; what++) {
                Check.due("thing " + thing + " " + what, due[what], x.thing(thing, what));
            }
            for (int no : new int[] {Integer.MIN_VALUE, -1, 5, 6, Integer.MAX_VALUE}) {
                Check.due("thing " + thing + " " + no, -1, x.thing(thing, no));
            }
        }
        for (int what = 0; what < 5; what++) {
            Check.due("thing 10 " + what, -1, x.thing(10, what));
            for (int no : FAR) {
                Check.due("thing " + no + " " + what, -1, x.thing(no, what));
            }
        }
        DewBaron none = Check.isle("island 2 2;");
        Check.due("no THING", -1, none.thing(0, 0));
    }

    /** "(cloths, stones, webs together, as they are told)"; promise 15: cloths have numbers of their own. */
    private static void thingsAsTheyAreTold() {
        DewBaron x = Check.isle("island 4 2;web takes 1 at 3 1;cloth b takes 2 at 2 1;stone takes 3 at 1 1;"
            + "cloth a takes 4 at 0 1;");
        int[] cells = {7, 6, 5, 4};
        int[] sorts = {2, 0, 1, 0};
        for (int thing = 0; thing < 4; thing++) {
            Check.due("CELL of " + thing, cells[thing], x.thing(thing, 0));
            Check.due("sort of " + thing, sorts[thing], x.thing(thing, 2));
        }
        x.hang(1, 0);
        x.hang(0, 1);
        Check.due("cloth 0 is THING 1", 1, x.thing(1, 0));
        Check.due("cloth 1 is THING 3", 0, x.thing(3, 0));
    }

    /** "the CISTERN that is nearest (by steps across and down, walls count for nothing; of like ones the first ..)". */
    private static void theNearestCistern() {
        String text = "island 7 6;cistern a at 0 0;cistern b at 6 0;cistern d at 0 5;cistern e at 6 5;";
        for (int cell = 1; cell < 41; cell++) {
            if (cell != 6 && cell != 35) {
                int across = cell % 7;
                int down = cell / 7;
                int[] far = {across + down, 6 - across + down, across + 5 - down, 11 - across - down};
                int due = 0;
                for (int i = 1; i < 4; i++) {
                    due = far[i] < far[due] ? i : due;
                }
                DewBaron x = Check.isle(text + "web takes 1 at " + across + " " + down + ";dew 1;");
                Check.due("the nearest of " + cell, due, x.thing(0, 3));
                for (int i = 0; i < 4; i++) {
                    Check.due("what comes into " + i, i == due ? 12 : 0, x.cistern(i, 2));
                    Check.due("how many go to " + i, i == due ? 1 : 0, x.cistern(i, 3));
                }
            }
        }
        Check.due("of like ones the first", 0, Check.isle("island 3 2;web takes 1 at 1 0;cistern a at 2 0;"
            + "cistern b at 0 0;").thing(0, 3));
        Check.due("of like ones the first, told the other way", 0, Check.isle("island 3 2;cistern a at 0 0;"
            + "web takes 1 at 1 0;cistern b at 2 0;").thing(0, 3));
        Check.due("a corner is two steps away", 1, Check.isle("island 3 2;web takes 1 at 1 0;cistern a at 0 1;"
            + "cistern b at 2 0;").thing(0, 3));
        Check.due("two steps in a row are no more than a corner", 0, Check.isle("island 4 2;web takes 1 at 2 0;"
            + "cistern a at 0 0;cistern b at 1 1;").thing(0, 3));
        Check.due("walls count for nothing", 0, Check.isle("island 4 2;web takes 1 at 2 0;cistern a at 0 0;"
            + "cistern b at 3 1;wall at 1 0;wall at 1 1;").thing(0, 3));
        Check.due("as far as can be", 0, Check.isle("island 7 6;web takes 1 at 6 5;cistern a at 0 0;").thing(0, 3));
    }

    /** "lost without CISTERNS"; promise 9: "its CISTERN (NONE without)". */
    private static void withoutCisterns() {
        DewBaron x = Check.isle("island 2 2;web takes 2 at 0 0;cloth a takes 3 at 1 1;dew takes;");
        Check.due("its CISTERN", -1, x.thing(0, 3));
        Check.due("the other one's", -1, x.thing(1, 3));
        Check.due("drops by dawn", 24, x.thing(0, 4));
        Check.due("drops of all", 60, x.whole(2));
        Check.due("none comes", 0, x.night());
        Check.due("none comes by the seed", 0, x.nights(2));
        Check.due("NIGHTS all the same", 3, x.has(10));
        Check.due("no CISTERN", -1, x.cistern(0, 0));
    }

    /** Promise 10: "NONE when there is none such, or for others." */
    private static void cisternsThatThereAre() {
        DewBaron x = Check.isle("island 7 6;cistern a at 6 5;cistern b at 5 5;cistern d at 4 5;cistern e at 3 5;"
            + "cistern f at 2 5;web takes 1 at 0 5;web takes 1 at 0 0;web takes 2 at 6 0;dew takes;drinks 5;");
        int[] cells = {41, 40, 39, 38, 37};
        int[] comes = {24, 0, 0, 0, 24};
        int[] things = {1, 0, 0, 0, 2};
        for (int i = 0; i < 5; i++) {
            int[] due = {cells[i], 0, comes[i], things[i]};
            for (int what = 0; what < 4; what++) {
                Check.due("cistern " + i + " " + what, due[what], x.cistern(i, what));
            }
            for (int no : new int[] {Integer.MIN_VALUE, -1, 4, 5, Integer.MAX_VALUE}) {
                Check.due("cistern " + i + " " + no, -1, x.cistern(i, no));
            }
        }
        for (int what = 0; what < 4; what++) {
            Check.due("cistern 5 " + what, -1, x.cistern(5, what));
            for (int no : FAR) {
                Check.due("cistern " + no + " " + what, -1, x.cistern(no, what));
            }
        }
        x.night();
        int[] drops = {19, 0, 0, 0, 19};
        for (int i = 0; i < 5; i++) {
            Check.due("drops in " + i, drops[i], x.cistern(i, 1));
            Check.due("what comes stays", comes[i], x.cistern(i, 2));
        }
    }

    /** Promise 11: "The sky of an HOUR (1 .. 12): 0 clear, 1 cloud, 2 wind, 3 smoke. NONE when there is none such." */
    private static void hoursOfTheSky() {
        DewBaron x = Check.isle("island 2 2;sky scwoscwoscwo;");
        int[] due = {3, 0, 2, 1, 3, 0, 2, 1, 3, 0, 2, 1};
        for (int hour = 1; hour <= 12; hour++) {
            Check.due("sky " + hour, due[hour - 1], x.sky(hour));
        }
        for (int no : new int[] {Integer.MIN_VALUE, -1, 0, 13, 14, Integer.MAX_VALUE}) {
            Check.due("sky " + no, -1, x.sky(no));
        }
    }

    /** Promise 14: "3 the HOUR in which most came (the first of like ones; NONE when none did)". */
    private static void theHourInWhichMostCame() {
        for (int hour = 1; hour <= 12; hour++) {
            DewBaron x = Check.isle("island 2 2;web takes 1 at 0 0;dew " + at(hour) + ";");
            Check.due("a single drop in " + hour, hour, x.whole(3));
            DewBaron more = Check.isle("island 2 2;web takes 1 at 0 0;dew 5+" + at(hour) + ";");
            Check.due("one more in " + hour, hour, more.whole(3));
            DewBaron like = Check.isle("island 2 2;web takes 1 at 0 0;dew 7*" + at(hour) + "+7*" + at(12) + ";");
            Check.due("the first of like ones", hour, like.whole(3));
        }
        Check.due("all alike", 1, Check.isle("island 2 2;web takes 1 at 0 0;dew 9;").whole(3));
        Check.due("none", -1, Check.isle("island 2 2;web takes 1 at 0 0;dew 0-9;").whole(3));
        Check.due("without dew", -1, Check.isle("island 2 2;web takes 1 at 0 0;").whole(3));
        // of all together: 2 and 2 drops in HOUR 3, 3 and none in HOUR 5
        DewBaron both = Check.isle("island 2 2;web takes 2 at 0 0;web takes 1 at 1 0;dew 2*" + at(3) + "+(takes-1)*3*"
            + at(5) + ";dries 9;");
        Check.due("of all of the NIGHT", 3, both.whole(3));
        Check.due("came", 7, both.whole(0));
        Check.due("what came counts, whatever dries", 7, both.whole(1));
    }

    /** Promise 14: "4 the THING with most by dawn (likewise)". */
    private static void theThingWithMost() {
        String[] takes = {"112", "211", "121", "111", "122", "999"};
        int[] due = {2, 0, 1, 0, 1, 0};
        for (int i = 0; i < takes.length; i++) {
            DewBaron x = Check.isle("island 3 2;web takes " + takes[i].charAt(0) + " at 0 0;cloth a takes "
                + takes[i].charAt(1) + " at 1 0;stone takes " + takes[i].charAt(2) + " at 2 0;dew takes;");
            Check.due("most of " + takes[i], due[i], x.whole(4));
        }
        String three = "island 3 2;web takes 1 at 0 0;cloth a takes 2 at 1 0;stone takes 3 at 2 0;";
        Check.due("a single drop", 2, Check.isle(three + "dew takes/3*" + at(12) + ";").whole(4));
        Check.due("none by dawn", -1, Check.isle(three + "dew 5;dries 5;").whole(4));
        Check.due("what is there by dawn, not what came", 0,
            Check.isle(three + "dew takes*9;dries (takes-1)*9;").whole(4));
        StringBuilder ten = new StringBuilder("island 7 6;dew takes;");
        for (int i = 0; i < 10; i++) {
            ten.append("web takes ").append(i == 9 ? 2 : 1).append(" at ").append(i % 7).append(' ').append(i / 7).append(';');
        }
        Check.due("the last of ten", 9, Check.isle(ten.toString()).whole(4));
    }

    /** Promise 14: "NONE for others, or without an island." */
    private static void wholeOfNothing() {
        DewBaron x = Check.isle("island 2 2;dew 9;dries 1;");
        int[] due = {0, 0, 0, -1, -1};
        for (int what = 0; what < 5; what++) {
            Check.due("no THINGS: whole " + what, due[what], x.whole(what));
            Check.due("no island: whole " + what, -1, new DewBaron().whole(what));
        }
        for (int no : new int[] {Integer.MIN_VALUE, -1, 5, 6, Integer.MAX_VALUE}) {
            Check.due("whole " + no, -1, x.whole(no));
            Check.due("no island: whole " + no, -1, new DewBaron().whole(no));
        }
        DewBaron most = Check.isle("island 2 2;web takes 1 at 0 0;stone takes 1 at 1 0;dew 99;dries 1;");
        Check.due("came", 2 * 1188, most.whole(0));
        Check.due("dried", 24, most.whole(1));
        Check.due("by dawn", 2 * 1176, most.whole(2));
    }

    /** "---- the night as told": sky, cold, dew, whole, what comes BY DAWN know nothing of NIGHTS by the seed. */
    private static void asToldWhateverTheSeed() {
        DewBaron x = Check.isle("island 2 2;web takes 3 at 0 0;cistern c at 1 1;sky cocococococo;dew takes*(1-cloud)+cold;"
            + "cloudy 100;");
        int comes = x.cistern(0, 2);
        int cold = x.cold(0, 12);
        Check.due("six clear HOURS", 6, cold);
        x.nights(5);
        Check.due("comes", comes, x.cistern(0, 2));
        Check.due("cold", cold, x.cold(0, 12));
        Check.due("whole", comes, x.whole(2));
        Check.due("thing", comes, x.thing(0, 4));
        Check.due("dew of a cloud", 1, x.dew(0, 2, 0));
        Check.due("sky", 1, x.sky(2));
        Check.due("a NIGHT as told", comes, x.night());
    }
}
