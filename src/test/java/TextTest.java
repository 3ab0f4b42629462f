/** Promises 1 to 7: a new object, the tape, the text of an ISLAND and its FAULTS, what there is, NAMES. */
final class TextTest {
    public static void main(String[] args) {
        newObject();
        feed();
        end();
        island();
        firstFaults();
        wordsAndNumbers();
        letters();
        names();
        numbers();
        brackets();
        tooMany();
        theWholeTape();
        fault();
        has();
        letter();
        Check.end();
    }

    private static void newObject() {
        DewBaron x = new DewBaron();
        int[] due = {0, 0, 0, 0, 0, 0, 0, 0, 0, 5, 0, 0, 1};
        for (int what = 0; what < due.length; what++) {
            Check.due("new: has " + what, due[what], x.has(what));
        }
        for (int what = 0; what < 6; what++) {
            Check.due("new: status " + what, 0, x.status(what));
        }
        Check.due("new: fault(0)", 0, x.fault(0));
        Check.due("new: fault(1)", -1, x.fault(1));
        Check.due("new: octet(0)", -1, x.octet(0));
        Check.due("new: walk(0)", -1, x.walk(0));
        Check.due("new: stores(0)", -1, x.stores(0));
        Check.due("new: letter", -1, x.letter(0, 0, 0));
        Check.due("new: thing", -1, x.thing(0, 0));
        Check.due("new: cistern", -1, x.cistern(0, 0));
        Check.due("new: dew", -1, x.dew(0, 1, 0));
        Check.due("new: down", -1000000000, x.down(0, 0));
        Check.due("new: hang", false, x.hang(0, 0));
        Check.due("new: wall", false, x.wall(0, true));
        Check.due("new: nights", -1, x.nights(1));
        Check.due("NONE", -1, DewBaron.NONE);
        Check.due("NOTHING", -1000000000, DewBaron.NOTHING);
    }

    private static void feed() {
        DewBaron x = new DewBaron();
        // "island 2 2;" and nine blanks: of each number the highest byte first
        Check.due("feed", 20, x.feed(0x69736c61, 0x6e642032, 0x20323b20, 0x20202020, 0x20202020));
        Check.due("island() of the tape", 1, x.island());
        for (int i = 1; i <= 80; i++) {
            Check.due("feed " + i, 20 * i, x.feed(-1, -1, -1, -1, -1));
        }
        Check.due("feed 81", -1, x.feed(0, 0, 0, 0, 0));
        Check.due("status(0)", 1, x.status(0));
        Check.due("all 1600 are there", true, x.end(1600));
        Check.due("end(1581)", true, x.end(1581));
        Check.due("feed into 19", -1, x.feed(0, 0, 0, 0, 0));
        Check.due("end(1580)", true, x.end(1580));
        Check.due("feed into 20", 1600, x.feed(0, 0, 0, 0, 0));
        Check.due("status(0) then", 2, x.status(0));
    }

    private static void end() {
        DewBaron x = new DewBaron();
        Check.due("end(0) of none", true, x.end(0));
        Check.due("end(1) of none", false, x.end(1));
        x.feed(0, 0, 0, 0, 0);
        Check.due("end(-1)", false, x.end(-1));
        Check.due("end(21)", false, x.end(21));
        Check.due("end(20)", true, x.end(20));
        Check.due("end(3)", true, x.end(3));
        Check.due("end(4)", false, x.end(4));
        Check.due("end(min)", false, x.end(Integer.MIN_VALUE));
        Check.due("status(0)", 5, x.status(0));
        Check.due("feed behind three", 23, x.feed(0, 0, 0, 0, 0));
    }

    private static void island() {
        DewBaron x = new DewBaron();
        Check.due("whole text", 7, Check.tell(x, "island 3 2;wall at 0 0;house at 1 0;cistern a at 2 0;"
            + "cloth b takes 1 at 0 1;dew 1;drinks 4;"));
        x.seed(77);
        x.night();
        Check.put(x, 3, 4);
        Check.due("a walk", 2, x.walked());
        Check.due("a fault", -1, Check.tell(x, "island 4 4"));
        Check.due("status(1)", 1, x.status(1));
        Check.due("all stays: wide", 3, x.has(0));
        Check.due("all stays: nights", 1, x.has(10));
        Check.due("all stays: acts", 1, x.has(11));
        Check.due("all stays: drops", 8, x.cistern(0, 1));
        Check.due("all stays: the walk", 3, x.walk(0));
        Check.due("the tape is gone", -1, x.island());
        Check.due("fault without a STATEMENT", 1, x.fault(0));
        Check.due("its place", 0, x.fault(1));
        Check.due("anew", 2, Check.tell(x, " island\n2 2 ; cistern a at 0 0 ; \n"));
        Check.due("anew: nights", 0, x.has(10));
        Check.due("anew: acts", 0, x.has(11));
        Check.due("anew: drops", 0, x.cistern(0, 1));
        Check.due("anew: no walk", -1, x.walk(0));
        Check.due("anew: undo", false, x.undo());
        Check.due("anew: walls", 0, x.has(2));
        Check.due("anew: drinks", 0, x.has(7));
        Check.due("the seed stays", 77, x.has(12));
        Check.due("the tape went", true, x.end(0) && !x.end(1));
    }

    private static void firstFaults() {
        Check.fault("", 1, 0);
        Check.fault("  \n ", 1, 4);
        Check.fault("wall at 0 0;", 1, 0);
        Check.fault(" isle 2 2;", 1, 1);
        Check.fault(";", 1, 0);
        Check.fault("island", 1, 6);
        Check.fault("island 2", 1, 8);
        Check.fault("island 2 2", 1, 10);
        Check.fault("island 2 2 2;", 1, 11);
        Check.fault("island 2 2;;", 1, 11);
        Check.fault("island 2 2;x", 1, 11);
        Check.fault("island 2 2;wall", 1, 15);
        Check.fault("island 2 2;wall 0 0;", 1, 16);
        Check.fault("island 2 2;wall at 0;", 1, 20);
        Check.fault("island 2 2;wall at 0 0 ", 1, 23);
        Check.fault("island 2 2;takes", 1, 11);
        Check.fault("island 2 2;island 2 2;", 1, 11);
        Check.fault("Island 2 2;", 1, 0);
        Check.fault("island\t2 2;", 1, 6);
        Check.fault("island 2 2;stone 1 at 0 0;", 1, 17);
        Check.fault("island 2 2;cloth takes 1 at 0 0;", 1, 17);
    }

    private static void wordsAndNumbers() {
        Check.fault("island2 2;", 1, 6);
        Check.fault("island 2 2;wall at0 0;", 1, 18);
        Check.fault("island 2 2;stone takes 1at 0 0;", 1, 24);
        Check.fault("island 2 2;wallat 0 0;", 1, 11);
        Check.fault("island 2 2;islands", 1, 17);
        Check.fault("island 2 2;cisterna", 1, 17);
        Check.fault("island 2 2;abcdefghij", 1, 17);
        Check.fault("island 2 2 abcdefghij", 1, 17);
        Check.fault("island 2 2;12345", 1, 15);
        Check.fault("island 2 2 123456;", 1, 15);
        Check.fault("island 00002 2;", 1, 11);
        Check.due("0002", 1, Check.tell(new DewBaron(), "island 0002 3;"));
        Check.fault("island 2 2;wall at 12345 0;", 1, 23);
        Check.fault("island 2 2;dew 12345;", 1, 19);
        Check.fault("island 2 2;dew abcdefg;", 1, 21);
        Check.fault("island 2 2;dew cistern;", 1, 15);
        Check.due("blanks where one likes", 3, Check.tell(new DewBaron(), "island\n\n2  2 ;dew(1+2)*takes;dries 1 ;"));
    }

    private static void letters() {
        Check.due("twelve", 2, Check.tell(new DewBaron(), "island 2 2;sky cowscowscows;"));
        Check.fault("island 2 2;sky cowscowscowsc;", 1, 15);
        Check.fault("island 2 2;sky;", 1, 14);
        Check.fault("island 2 2;sky", 1, 14);
        Check.fault("island 2 2;sky at;", 1, 15);
        Check.fault("island 2 2;sky cowx;", 1, 15);
        Check.fault("island 2 2;sky abcdefgh;", 1, 15);
        Check.fault("island 2 2;sky 12345;", 1, 15);
        Check.fault("island 2 2;sky cc c;", 1, 18);
        Check.fault("island 2 2;sky cc1;", 1, 17);
        Check.fault("island 2 2;sky c abcdefg;", 1, 23);
        Check.fault("island 2 2;skyc;", 1, 11);
        DewBaron x = Check.isle("island 2 2;sky o;sky sw;");
        Check.due("the last sky counts: 1", 3, x.sky(1));
        Check.due("the last sky counts: 2", 2, x.sky(2));
        Check.due("clear behind them", 0, x.sky(3));
    }

    private static void names() {
        Check.fault("island 2 2;cistern a at 0 0;cistern a at 1 0;", 2, 36);
        Check.fault("island 2 2;cistern a at 0 0;cloth a takes 1 at 1 0;", 2, 34);
        Check.fault("island 2 2;cloth a takes 1 at 0 0;cistern a at 1 0;", 2, 42);
        Check.fault("island 2 2;cistern abcdefg at 0 0;", 1, 25);
        String[] own = {"island", "height", "at", "wall", "house", "cistern", "cloth", "takes", "stone", "web", "sky",
            "dew", "dries", "drinks", "cloudy", "wring", "open", "high", "cold", "hour", "cloud", "wind", "smoke",
            "near", "wet", "min", "max"};
        for (String word : own) {
            Check.fault("island 2 2;cistern " + word + " at 0 0;", 1, 19);
        }
        Check.due("alike but for length", 4,
            Check.tell(new DewBaron(), "island 2 2;cistern a at 0 0;cistern aa at 0 1;cloth aaa takes 1 at 1 1;"));
        Check.due("letters of skies", 2, Check.tell(new DewBaron(), "island 2 2;cistern c at 0 0;"));
    }

    private static void numbers() {
        Check.fault("island 1 2;", 4, 7);
        Check.fault("island 8 2;", 4, 7);
        Check.fault("island 7 1;", 4, 9);
        Check.fault("island 7 7;", 4, 9);
        Check.fault("island 9999 abcdefg", 4, 7);
        Check.due("the largest", 1, Check.tell(new DewBaron(), "island 7 6;"));
        Check.due("the smallest", 1, Check.tell(new DewBaron(), "island 2 2;"));
        Check.fault("island 2 3;wall at 2 0;", 4, 19);
        Check.fault("island 2 3;wall at 0 3;", 4, 21);
        Check.due("the last CELL", 2, Check.tell(new DewBaron(), "island 2 3;wall at 1 2;"));
        Check.fault("island 2 2;height 10 at 0 0;", 4, 18);
        Check.fault("island 2 2;stone takes 0 at 0 0;", 4, 23);
        Check.fault("island 2 2;web takes 10 at 0 0;", 4, 21);
        Check.fault("island 2 2;cloth a takes 10 at 0 0;", 4, 25);
        Check.fault("island 2 2;drinks 1000;", 4, 18);
        Check.fault("island 2 2;cloudy 101;", 4, 18);
        Check.fault("island 2 2;wring 0;", 4, 17);
        Check.fault("island 2 2;wring 21;", 4, 17);
        String[] things = {"wall", "house", "cistern c", "cloth d takes 1", "stone takes 2", "web takes 3"};
        for (String one : things) {
            for (String two : new String[] {"wall", "house", "cistern e", "cloth f takes 9", "stone takes 8",
                "web takes 7"}) {
                String text = "island 2 2;" + one + " at 1 0;" + two + " at 1 ";
                Check.fault(text + "0;", 4, text.length());
            }
            Check.due("height at a CELL that is not free", 3,
                Check.tell(new DewBaron(), "island 2 2;" + one + " at 1 0;height 9 at 1 0;"));
        }
    }

    private static void brackets() {
        Check.due("seven", 2, Check.tell(new DewBaron(), "island 2 2;dew (((((((1)))))));"));
        Check.fault("island 2 2;dew ((((((((1))))))));", 5, 22);
        Check.fault("island 2 2;dew (((((((min (1,2))))))));", 5, 26);
        Check.fault("island 2 2;dew min(1,max((((((1,2))))));", 1, 31);
        Check.due("one behind the other", 2,
            Check.tell(new DewBaron(), "island 2 2;dew (1)+(1)+(1)+(1)+(1)+(1)+(1)+(1)*(1);"));
        Check.fault("island 2 2;dew (1;", 1, 17);
        Check.fault("island 2 2;dew 1);", 1, 16);
        Check.fault("island 2 2;dew ();", 1, 16);
        Check.fault("island 2 2;dew -1;", 1, 15);
        Check.fault("island 2 2;dew 1+;", 1, 17);
        Check.fault("island 2 2;dew 1*", 1, 17);
        Check.fault("island 2 2;dew 1 2;", 1, 17);
        Check.fault("island 2 2;dew min 1;", 1, 19);
        Check.fault("island 2 2;dew min(1);", 1, 20);
        Check.fault("island 2 2;dew min(1,2,3);", 1, 22);
        Check.fault("island 2 2;dew (1,2);", 1, 17);
        Check.fault("island 2 2;dew wall;", 1, 15);
        Check.fault("island 2 2;dew;", 1, 14);
    }

    private static String times(int n, String... parts) {
        StringBuilder s = new StringBuilder("island 7 6;");
        for (int i = 0; i < n; i++) {
            s.append(parts[i % parts.length].replace("$", "" + (char) ('a' + i)));
            s.append(" at ").append(i % 7).append(' ').append(i / 7).append(';');
        }
        return s.toString();
    }

    private static void tooMany() {
        int[] most = {12, 6, 5, 10};
        String[][] kinds = {{"wall"}, {"house"}, {"cistern $"}, {"cloth $ takes 1", "stone takes 2", "web takes 3"}};
        for (int i = 0; i < most.length; i++) {
            String full = times(most[i], kinds[i]);
            Check.due("full of " + kinds[i][0], most[i] + 1, Check.tell(new DewBaron(), full));
            for (String kind : kinds[i]) {
                String word = kind.indexOf(' ') < 0 ? kind : kind.substring(0, kind.indexOf(' '));
                Check.fault(full + word, 6, full.length());
                Check.fault(full + " " + word + " abcdefgh", 6, full.length() + 1);
            }
        }
        Check.fault("island 2 2;dew 1;dew 2;", 6, 17);
        Check.fault("island 2 2;dries 1;dries 2;", 6, 19);
        String eighty = "island 2 2;" + "wring 9;".repeat(79);
        Check.due("80 STATEMENTS", 80, Check.tell(new DewBaron(), eighty + " \n"));
        Check.fault(eighty + " wring 9;", 6, eighty.length() + 1);
        Check.fault(eighty + "island", 6, eighty.length());
        Check.fault(eighty + "abcdefgh", 6, eighty.length());
        Check.fault(eighty + "?", 6, eighty.length());
        Check.fault(eighty.substring(0, eighty.length() - 8) + "?", 1, eighty.length() - 8);
    }

    /** A text as long as the tape, of as many words and signs as can be. */
    private static void theWholeTape() {
        StringBuilder text = new StringBuilder("island 2 2;stone takes 1 at 1 1;dew 7");
        while (text.length() < 1594) {
            text.append("+1-1");
        }
        text.append("/1".repeat(3)).setLength(1599);
        Check.fault(text.toString(), 1, 1599);
        Check.fault(text + "+", 1, 1600);
        DewBaron x = new DewBaron();
        Check.due("the whole tape", 3, Check.tell(x, text + ";"));
        Check.due("the whole SUM", 7, x.dew(0, 1, 0));
        Check.due("the longest SUM of little parts", -1, Check.tell(x, "island 2 2;dew " + "1+".repeat(792) + ";"));
        Check.due("its fault", 1599, x.fault(1));
    }

    private static void fault() {
        DewBaron x = new DewBaron();
        Check.tell(x, "island 2 2;wall at 5 0;");
        Check.due("fault(0)", 4, x.fault(0));
        Check.due("fault(1)", 19, x.fault(1));
        Check.due("fault(2)", -1, x.fault(2));
        Check.due("fault(-1)", -1, x.fault(-1));
        Check.tell(x, "island 2 2;");
        Check.due("fault(0) without", 0, x.fault(0));
        Check.due("fault(1) without", -1, x.fault(1));
    }

    private static void has() {
        DewBaron x = Check.isle("island 7 6;wall at 0 0;wall at 1 0;house at 2 0;cistern a at 3 0;cistern b at 3 1;"
            + "cistern d at 3 2;cloth e takes 1 at 4 0;stone takes 1 at 4 1;web takes 1 at 4 2;cloth f takes 1 at 4 3;"
            + "drinks 9;drinks 11;cloudy 1;cloudy 33;wring 20;wring 7;");
        x.wall(6, true);
        x.night();
        int[] due = {7, 6, 3, 1, 3, 4, 2, 11, 33, 7, 1, 2, 1};
        for (int what = 0; what < due.length; what++) {
            Check.due("has " + what, due[what], x.has(what));
        }
        Check.due("has 13", -1, x.has(13));
        Check.due("has -1", -1, x.has(-1));
        Check.due("has max", -1, x.has(Integer.MAX_VALUE));
    }

    private static void letter() {
        DewBaron x = Check.isle("island 3 3;stone takes 1 at 2 2;cistern abzyxw at 0 0;cistern q at 0 1;"
            + "web takes 1 at 2 1;cloth me takes 1 at 1 1;");
        int[] due = {1, 2, 26, 25, 24, 23};
        for (int k = 0; k < 6; k++) {
            Check.due("letter 0 0 " + k, due[k], x.letter(0, 0, k));
            Check.due("letter 0 1 " + k, k == 0 ? 17 : 0, x.letter(0, 1, k));
            Check.due("letter 1 0 " + k, k == 0 ? 13 : k == 1 ? 5 : 0, x.letter(1, 0, k));
            Check.due("letter 0 2 " + k, -1, x.letter(0, 2, k));
            Check.due("letter 1 1 " + k, -1, x.letter(1, 1, k));
            Check.due("letter 2 0 " + k, -1, x.letter(2, 0, k));
        }
        Check.due("letter 0 0 6", -1, x.letter(0, 0, 6));
        Check.due("letter 0 0 -1", -1, x.letter(0, 0, -1));
        Check.due("letter 0 -1 0", -1, x.letter(0, -1, 0));
        Check.due("letter -1 0 0", -1, x.letter(-1, 0, 0));
    }
}
