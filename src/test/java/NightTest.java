/** Promises 8 to 14, and SUMS: CELLS, THINGS, CISTERNS, the sky, COLD, dew, all of the NIGHT. */
final class NightTest {
    /** Heights 2 1 0 above, 0 0 0 below; COLD of cell 0 flows to 3, of 1 to 2. */
    private static final String SLOPE = "island 3 2;height 2 at 0 0;height 9 at 1 0;height 1 at 1 0;house at 1 1;"
        + "wall at 2 1;cistern c at 0 1;stone takes 3 at 2 0;cloth a takes 5 at 1 0;sky cows;";

    public static void main(String[] args) {
        cell();
        thing();
        cistern();
        sky();
        cold();
        coldOfLikeOnes();
        dew();
        sums();
        longSums();
        facts();
        whole();
        Check.end();
    }

    private static void cell() {
        DewBaron x = Check.isle("island 4 3;wall at 1 0;wall at 3 1;wall at 2 1;house at 0 1;house at 1 2;"
            + "cistern c at 0 0;web takes 1 at 3 0;height 7 at 2 2;");
        int[][] due = {
            {0, 4, 7, 1, 10}, {0, 1, 7, 0, 0}, {0, 0, 5, 0, 0}, {0, 3, 6, 0, 0},
            {0, 2, 7, 0, 20}, {0, 0, 6, 2, 20}, {0, 1, 6, 0, 10}, {0, 1, 7, 0, 0},
            {0, 0, 8, 2, 0}, {0, 2, 7, 0, 0}, {7, 0, 6, 1, 0}, {0, 0, 6, 0, 0}};
        for (int cell = 0; cell < 12; cell++) {
            for (int what = 0; what < 5; what++) {
                Check.due("cell " + cell + " " + what, due[cell][what], x.cell(cell, what));
            }
            Check.due("cell " + cell + " 5", -1, x.cell(cell, 5));
            Check.due("cell " + cell + " -1", -1, x.cell(cell, -1));
        }
        Check.due("cell 12", -1, x.cell(12, 0));
        Check.due("cell -1", -1, x.cell(-1, 0));
        Check.due("cell max", -1, x.cell(Integer.MAX_VALUE, 4));
        x.wall(5, true);
        Check.due("walls now", 6, x.cell(4, 2));
        Check.due("the SUN now", 30, x.cell(4, 4));
    }

    private static void thing() {
        DewBaron x = Check.isle("island 5 5;cistern a at 0 0;cistern b at 4 0;cistern d at 2 4;web takes 1 at 2 0;"
            + "stone takes 2 at 3 0;cloth e takes 3 at 2 2;cloth f takes 9 at 2 3;wall at 3 1;dew takes;dries 1;");
        int[][] due = {{2, 1, 2, 0, 0}, {3, 2, 1, 1, 12}, {12, 3, 0, 2, 24}, {17, 9, 0, 2, 96}};
        for (int thing = 0; thing < 4; thing++) {
            for (int what = 0; what < 5; what++) {
                Check.due("thing " + thing + " " + what, due[thing][what], x.thing(thing, what));
            }
            Check.due("thing " + thing + " 5", -1, x.thing(thing, 5));
            Check.due("thing " + thing + " -1", -1, x.thing(thing, -1));
        }
        Check.due("thing 4", -1, x.thing(4, 0));
        Check.due("thing -1", -1, x.thing(-1, 0));
        x.hang(0, 5);
        Check.due("its CELL now", 5, x.thing(2, 0));
        Check.due("its CISTERN now", 0, x.thing(2, 3));
        DewBaron dry = Check.isle("island 2 2;web takes 1 at 0 0;dew 3;");
        Check.due("without CISTERNS", -1, dry.thing(0, 3));
        Check.due("drops without CISTERNS", 36, dry.thing(0, 4));
    }

    private static void cistern() {
        DewBaron x = Check.isle("island 5 2;stone takes 1 at 1 0;stone takes 2 at 2 0;stone takes 3 at 3 0;"
            + "cistern a at 0 0;cistern b at 4 0;cistern d at 4 1;dew takes;drinks 5;");
        int[][] due = {{0, 0, 36, 2}, {4, 0, 36, 1}, {9, 0, 0, 0}};
        for (int cistern = 0; cistern < 3; cistern++) {
            for (int what = 0; what < 4; what++) {
                Check.due("cistern " + cistern + " " + what, due[cistern][what], x.cistern(cistern, what));
            }
            Check.due("cistern " + cistern + " 4", -1, x.cistern(cistern, 4));
            Check.due("cistern " + cistern + " -1", -1, x.cistern(cistern, -1));
        }
        Check.due("cistern 3", -1, x.cistern(3, 0));
        Check.due("cistern -1", -1, x.cistern(-1, 0));
        x.night();
        Check.due("drops behind a NIGHT", 31, x.cistern(0, 1));
        Check.due("none to drink", 0, x.cistern(2, 1));
    }

    private static void sky() {
        DewBaron x = Check.isle(SLOPE);
        int[] due = {-1, 0, 1, 2, 3, 0, 0, 0, 0, 0, 0, 0, 0, -1};
        for (int hour = 0; hour < due.length; hour++) {
            Check.due("sky " + hour, due[hour], x.sky(hour));
        }
        Check.due("sky -1", -1, x.sky(-1));
        x.nights(3);
        Check.due("as told, whatever came by the seed", 1, x.sky(2));
        Check.due("the twelfth", 3, Check.isle("island 2 2;sky cccccccccccs;").sky(12));
    }

    private static void cold() {
        DewBaron x = Check.isle(SLOPE);
        int[] clear = {0, 1, 1, 1, 1, 2, 3, 4, 5, 6, 7, 8, 9};
        int[] flowing = {0, 0, 2, 2, 1, 0};
        for (int cell = 0; cell < 6; cell++) {
            for (int hour = 0; hour <= 12; hour++) {
                Check.due("cold " + cell + " " + hour, flowing[cell] * clear[hour], x.cold(cell, hour));
            }
            Check.due("cold " + cell + " 13", -1, x.cold(cell, 13));
            Check.due("cold " + cell + " -1", -1, x.cold(cell, -1));
        }
        Check.due("cold 6", -1, x.cold(6, 1));
        Check.due("cold -1", -1, x.cold(-1, 1));
        x.wall(5, false);
        Check.due("without the wall", 12 - 3, x.cold(5, 12));
        x.undo();
        Check.due("with it again", 0, x.cold(5, 12));
    }

    private static void coldOfLikeOnes() {
        // the middle one may flow to all four: above, right, below, left
        String text = "island 3 3;height 5 at 1 1;";
        Check.due("above is the first", 2 * 12, Check.isle(text).cold(1, 12));
        Check.due("then right", 2 * 12, Check.isle(text + "wall at 1 0;").cold(5, 12));
        Check.due("then below", 2 * 12, Check.isle(text + "wall at 1 0;wall at 2 1;").cold(7, 12));
        Check.due("then left", 2 * 12, Check.isle(text + "wall at 1 0;wall at 2 1;wall at 1 2;").cold(3, 12));
        text += "wall at 1 0;wall at 2 1;wall at 1 2;wall at 0 1;";
        Check.due("or nowhere", 12, Check.isle(text).cold(4, 12));
        Check.due("the lowest before the first", 0, Check.isle("island 3 3;height 5 at 1 1;height 1 at 1 0;"
            + "height 1 at 2 1;height 1 at 0 1;").cold(1, 12));
        // a row that falls all the way: all COLD is in the last CELL in the same HOUR
        DewBaron x = Check.isle("island 7 2;height 6 at 0 0;height 5 at 1 0;height 4 at 2 0;height 3 at 3 0;"
            + "height 2 at 4 0;height 1 at 5 0;height 9 at 0 1;height 9 at 1 1;height 9 at 2 1;height 9 at 3 1;"
            + "height 9 at 4 1;height 9 at 5 1;height 9 at 6 1;");
        Check.due("all in the pool", 14, x.cold(6, 1));
        Check.due("all in the pool by dawn", 168, x.cold(6, 12));
        Check.due("none on the way", 0, x.cold(3, 12));
    }

    private static void dew() {
        DewBaron x = Check.isle(SLOPE + "dew takes+cold;dries hour;");
        int[][] due = {{5, 1, 4}, {5, 2, 7}, {5, 3, 9}, {5, 4, 10}, {7, 5, 12}};
        for (int hour = 1; hour <= 5; hour++) {
            for (int what = 0; what < 3; what++) {
                Check.due("dew 0 " + hour + " " + what, due[hour - 1][what], x.dew(0, hour, what));
            }
        }
        Check.due("COLD has flown away", 5, x.dew(1, 12, 0));
        Check.due("dew 2", -1, x.dew(2, 1, 0));
        Check.due("dew -1", -1, x.dew(-1, 1, 0));
        Check.due("HOUR 0", -1, x.dew(0, 0, 0));
        Check.due("HOUR 13", -1, x.dew(0, 13, 0));
        Check.due("what 3", -1, x.dew(0, 1, 3));
        Check.due("what -1", -1, x.dew(0, 1, -1));
        DewBaron bounds = Check.isle("island 2 2;stone takes 1 at 0 0;dew 50-wet+hour*9;dries 100;");
        Check.due("not above 99", 99, bounds.dew(0, 7, 0));
        Check.due("all dries, and no more", 99, bounds.dew(0, 7, 1));
        Check.due("nothing is left", 0, bounds.dew(0, 7, 2));
        DewBaron below = Check.isle("island 2 2;stone takes 1 at 0 0;dew 5-hour;dries 0-4;");
        Check.due("not below 0", 0, below.dew(0, 6, 0));
        Check.due("nothing dries below 0", 0, below.dew(0, 6, 1));
        Check.due("all lies there", 4 + 3 + 2 + 1, below.dew(0, 12, 2));
        Check.due("without dew", 0, Check.isle("island 2 2;stone takes 1 at 0 0;dries 1;").dew(0, 1, 0));
        Check.due("without dries", 12, Check.isle("island 2 2;stone takes 1 at 0 0;dew 1;").dew(0, 12, 2));
    }

    private static void sum(String sum, int due) {
        DewBaron x = Check.isle("island 2 2;stone takes 1 at 0 0;dew " + sum + ";");
        Check.due(sum, due, x.dew(0, 1, 0));
    }

    private static void sums() {
        sum("2+3*4", 14);
        sum("(2+3)*4", 20);
        sum("20-5-3", 12);
        sum("20-(5-3)", 18);
        sum("40/5/2", 4);
        sum("40/5*2", 16);
        sum("17%10%4", 3);
        sum("2*7%4", 2);
        sum("7/2", 3);
        sum("(0-7)/2+10", 6);
        sum("7/(0-2)+10", 6);
        sum("(0-7)/(0-2)+10", 13);
        sum("(0-7)%2+10", 11);
        sum("7%(0-2)+10", 9);
        sum("(0-7)%(0-2)+10", 9);
        sum("5/0+3", 3);
        sum("5%0+3", 3);
        sum("5%5+3", 3);
        sum("9999*9999/9999-50", 50);
        sum("9999*9999*9999/9999-50", 50);
        sum("(0-9999)*9999/9999+150", 49);
        sum("9999*9999+1-9999*100-90-1-9", 0);
        sum("9999*9999+5-9999*100", 99);
        sum("9999*100+100-9999*100-40", 60);
        sum("9999*100+101-9999*100-40", 60);
        sum("min(4,9)", 4);
        sum("max(4,9)", 9);
        sum("min(9,4)", 4);
        sum("max(9 , 4)", 9);
        sum("min(1+1,max(3,2)*5)+max(1,min(7,6))", 8);
        sum("0009", 9);
        sum("99", 99);
        sum("100", 99);
        sum("0-1", 0);
    }

    /** Both SUMS are kept in one row: neither takes from the other, however long, in whatever order they are told. */
    private static void longSums() {
        String isle = "island 2 2;web takes 9 at 1 1;";
        int most = (1600 - isle.length() - "dew 7;dries 3;".length()) / 2;
        DewBaron x = new DewBaron();
        for (int n : new int[] {0, 1, most / 2, most - 1, most}) {
            String dew = "dew " + "0+".repeat(n) + "7;";
            String dries = "dries " + "0+".repeat(most - n) + "3;";
            Check.due("dew first, " + n, 3 + 1, Check.tell(x, isle + dew + dries));
            Check.due("by dawn", 48, x.whole(2));
            Check.due("refused within the second", -1, Check.tell(x, isle + "dries 1+1;dew 2+(3+4"));
            Check.due("by dawn still", 48, x.whole(2));
            Check.due("dries first, " + n, 3 + 1, Check.tell(x, isle + dries + dew));
            Check.due("came", 84, x.whole(0));
            Check.due("dried", 36, x.whole(1));
            Check.due("dew alone", 3, Check.tell(x, isle + dew));
            Check.due("none dried", 0, x.whole(1));
            Check.due("dries alone", 3, Check.tell(x, isle + dries));
            Check.due("none came", 0, x.whole(0));
        }
        Check.due("the whole tape", 1600, isle.length() + 2 * most + "dew 7;dries 3;".length());
    }

    private static void facts() {
        String text = "island 3 2;height 7 at 1 0;house at 0 0;house at 1 1;wall at 2 1;wall at 0 1;sky cows;"
            + "stone takes 6 at 1 0;height 8 at 2 0;";
        String[] facts = {"takes", "open", "high", "cold", "hour", "cloud", "wind", "smoke", "near"};
        int[][] due = {{6, 6, 7, 0, 1, 0, 0, 0, 2}, {6, 6, 7, 0, 2, 1, 0, 0, 2}, {6, 6, 7, 0, 3, 0, 1, 0, 2},
            {6, 6, 7, 0, 4, 0, 0, 1, 2}, {6, 6, 7, 0, 5, 0, 0, 0, 2}};
        for (int i = 0; i < facts.length; i++) {
            DewBaron x = Check.isle(text + "dew " + facts[i] + ";dries " + facts[i] + ";");
            for (int hour = 1; hour <= 5; hour++) {
                Check.due(facts[i] + " for dew in " + hour, due[hour - 1][i], x.dew(0, hour, 0));
                Check.due(facts[i] + " for dries in " + hour, due[hour - 1][i], x.dew(0, hour, 1));
            }
        }
        DewBaron x = Check.isle(text + "dew wet+1;dries wet/2;");
        int[][] wet = {{1, 0, 1}, {2, 1, 2}, {3, 2, 3}, {4, 3, 4}};
        for (int hour = 1; hour <= 4; hour++) {
            for (int what = 0; what < 3; what++) {
                Check.due("wet in " + hour + " " + what, wet[hour - 1][what], x.dew(0, hour, what));
            }
        }
        DewBaron pool = Check.isle("island 2 2;stone takes 1 at 0 0;height 1 at 0 1;sky cc;dew cold;");
        Check.due("COLD behind the flow", 2, pool.dew(0, 1, 0));
        Check.due("COLD in the last HOUR", 24, pool.dew(0, 12, 0));
    }

    private static void whole() {
        DewBaron x = Check.isle("island 2 2;stone takes 2 at 0 0;web takes 5 at 1 0;cloth a takes 5 at 0 1;"
            + "dew takes*(hour%4/3);dries 1;");
        // in HOURS 3, 7, 11: 2, 5, 5 drops; each loses one in each HOUR
        Check.due("came", 36, x.whole(0));
        Check.due("dried", 6 + 12 - 2 + 12 - 2, x.whole(1));
        Check.due("by dawn", 10, x.whole(2));
        Check.due("the HOUR", 3, x.whole(3));
        Check.due("the THING", 1, x.whole(4));
        Check.due("whole 5", -1, x.whole(5));
        Check.due("whole -1", -1, x.whole(-1));
        DewBaron dry = Check.isle("island 2 2;stone takes 2 at 0 0;dew 1;dries 2;");
        Check.due("dry: came", 12, dry.whole(0));
        Check.due("dry: dried", 12, dry.whole(1));
        Check.due("dry: by dawn", 0, dry.whole(2));
        Check.due("dry: the HOUR", 1, dry.whole(3));
        Check.due("dry: the THING", -1, dry.whole(4));
        DewBaron none = Check.isle("island 2 2;stone takes 2 at 0 0;");
        int[] due = {0, 0, 0, -1, -1};
        for (int what = 0; what < 5; what++) {
            Check.due("no dew: whole " + what, due[what], none.whole(what));
            Check.due("no island: whole " + what, -1, new DewBaron().whole(what));
        }
    }
}
