/**
 * What the document says of the edges of an ISLAND's text (Terms I), sentence by sentence: the last that is taken, the
 * first that is not, and where its FAULT is told (here at the ^).
 */
final class EdgesOfTextTest {
    private static final String[] OWN_WORDS = {"island", "height", "at", "wall", "house", "cistern", "cloth", "takes",
        "stone", "web", "sky", "dew", "dries", "drinks", "cloudy", "wring", "open", "high", "cold", "hour", "cloud",
        "wind", "smoke", "near", "wet", "min", "max"};
    private static final String[] PLACED =
        {"wall", "house", "cistern $", "cloth $ takes 1", "stone takes 1", "web takes 1"};

    public static void main(String[] args) {
        size();
        theFirstStatement();
        eightyStatements();
        anyNumberOfTheOthers();
        height();
        cellOfAText();
        freeCells();
        twelveWalls();
        sixHouses();
        fiveCisterns();
        tenThings();
        takes();
        lettersOfTheSky();
        theLastSkyCounts();
        whereLettersAreAsked();
        oneDewOneDries();
        drinks();
        cloudy();
        wring();
        lettersOfAName();
        unlikeNames();
        noOwnWordIsAName();
        digits();
        blanks();
        whereABlankIsNeeded();
        wholeAtTheirFirstByte();
        textsThatEndTooSoon();
        sevenBrackets();
        sums();
        theFirstAlongTheText();
        lettersAreSmall();
        Check.end();
    }

    /** "island N N (WIDE, HIGH, 2 .. 7 and 2 .. 6)". */
    private static void size() {
        for (int wide = 2; wide <= 7; wide++) {
            for (int high = 2; high <= 6; high++) {
                DewBaron x = Check.isle("island " + wide + " " + high + ";");
                Check.due("WIDE", wide, x.has(0));
                Check.due("HIGH", high, x.has(1));
            }
        }
        for (int no : new int[] {0, 1, 8, 9, 10, 9999}) {
            Check.faultAt(4, "island ^" + no + " 2;");
        }
        for (int no : new int[] {0, 1, 7, 8, 10, 9999}) {
            Check.faultAt(4, "island 7 ^" + no + ";");
        }
    }

    /** "the first STATEMENT, and it alone". */
    private static void theFirstStatement() {
        for (String first : new String[] {"height 1 at 0 0", "wall at 0 0", "house at 0 0", "cistern a at 0 0",
            "cloth a takes 1 at 0 0", "stone takes 1 at 0 0", "web takes 1 at 0 0", "sky c", "dew 1", "dries 1",
            "drinks 1", "cloudy 1", "wring 1"}) {
            Check.faultAt(1, "^" + first + ";island 2 2;");
            Check.faultAt(1, " \n^" + first + ";");
            Check.taken("island 2 2;" + first + ";", 2);
        }
        Check.faultAt(1, "island 2 2;^island 2 2;");
        Check.faultAt(1, "island 2 2;wall at 0 0;^island 9 9;");
    }

    /** "{ STATEMENT ; } (80 at most)"; "6 .. the 81st STATEMENT (whatever it is), at its first byte". */
    private static void eightyStatements() {
        String most = "island 2 2;" + "wring 9;".repeat(79);
        Check.taken(most, 80);
        Check.taken(most + " \n ", 80);
        Check.taken("island 2 2;" + "wring 9;".repeat(78), 79);
        for (String more : new String[] {"wring 9;", "wring", "wring 0;", "height 1 at 0 0;", "dew 1;", "dries 1;",
            "sky c;", "island 2 2;", "island", "at", "takes", "cistern", "x", "abcdef", "abcdefg", "cisterna", "7",
            "12345", ";", "(", ",", "?", "A"}) {
            Check.faultAt(6, most + "^" + more);
            Check.faultAt(6, most + " \n^" + more);
        }
        String less = "island 2 2;" + "wring 9;".repeat(78);
        Check.faultAt(1, less + "^;");
        Check.faultAt(1, less + "abcdef^g");
        Check.faultAt(1, most.substring(0, most.length() - 1) + "^");
        // a STATEMENT of a kind that is full would have FAULT 6 all the same
        Check.faultAt(6, "island 2 2;dew 1;" + "wring 9;".repeat(78) + "^dew 2;");
    }

    /** Of height, sky, drinks, cloudy, wring there may be more than one: "the last one .. counts", "likewise". */
    private static void anyNumberOfTheOthers() {
        Check.taken("island 2 2;" + "height 1 at 0 0;".repeat(79), 80);
        Check.taken("island 2 2;" + "sky c;".repeat(79), 80);
        Check.taken("island 2 2;" + "drinks 1;".repeat(79), 80);
        Check.taken("island 2 2;" + "cloudy 1;".repeat(79), 80);
    }

    /** "height N at CELL (0 .. 9; the last one of a CELL counts; 0 without)". */
    private static void height() {
        for (int height = 0; height <= 9; height++) {
            Check.due("height", height, Check.isle("island 2 2;height " + height + " at 1 0;").cell(1, 0));
        }
        Check.faultAt(4, "island 2 2;height ^10 at 1 0;");
        Check.faultAt(4, "island 2 2;height ^9999 at 1 0;");
        DewBaron x = Check.isle("island 2 2;height 3 at 0 1;height 7 at 0 1;height 5 at 1 1;height 9 at 0 1;"
            + "height 4 at 1 1;height 0 at 1 1;");
        Check.due("the last one counts", 9, x.cell(2, 0));
        Check.due("the last one counts, 0 too", 0, x.cell(3, 0));
        Check.due("0 without", 0, x.cell(0, 0));
        for (String placed : PLACED) {
            String one = placed.replace('$', 'a');
            DewBaron y = Check.isle("island 2 2;height 2 at 1 1;" + one + " at 1 1;height 6 at 1 1;");
            Check.due("a height where there is a " + one, 6, y.cell(3, 0));
        }
        Check.tell(x, "island 2 2;");
        Check.due("0 without, in the next ISLAND", 0, x.cell(2, 0));
    }

    /** "CELL: N N, across below WIDE, down below HIGH; its number: down times WIDE, and across". */
    private static void cellOfAText() {
        for (String placed : new String[] {"height 1", "wall", "house", "cistern a", "cloth a takes 1",
            "stone takes 1", "web takes 1"}) {
            String text = "island 3 4;" + placed + " at ";
            Check.taken(text + "0 0;", 2);
            Check.taken(text + "2 3;", 2);
            Check.faultAt(4, text + "^3 0;");
            Check.faultAt(4, text + "^3 4;");
            Check.faultAt(4, text + "0 ^4;");
            Check.faultAt(4, text + "2 ^4;");
            Check.faultAt(4, text + "^9999 0;");
            Check.faultAt(4, text + "0 ^9999;");
            Check.faultAt(1, text + "^-1 0;");
        }
        for (int cell = 0; cell < 12; cell++) {
            DewBaron x = Check.isle("island 3 4;wall at " + cell % 3 + " " + cell / 3 + ";");
            for (int other = 0; other < 12; other++) {
                Check.due("a wall in " + cell + "?", other == cell ? 1 : 0, x.cell(other, 1));
            }
        }
        Check.taken("island 7 6;wall at 6 5;wall at 0 5;wall at 6 0;", 4);
        Check.faultAt(4, "island 7 6;wall at ^7 5;");
        Check.faultAt(4, "island 7 6;wall at 6 ^6;");
    }

    /** "no HOUSE's, THING's, CISTERN's, no wall yet"; "a free one, as for a wall"; "of a CELL that can't be taken the second one". */
    private static void freeCells() {
        for (String first : PLACED) {
            for (String second : PLACED) {
                String text = "island 3 2;" + first.replace('$', 'a') + " at 2 1;" + second.replace('$', 'b') + " at ";
                Check.faultAt(4, text + "2 ^1;");
                Check.faultAt(4, text + "2\n ^0001 ?");
                Check.taken(text + "1 1;", 3);
                Check.taken(text + "2 0;", 3);
            }
        }
    }

    private static String row(int from, int count, String... kinds) {
        StringBuilder s = new StringBuilder();
        for (int i = 0; i < count; i++) {
            int cell = from + i;
            s.append(kinds[i % kinds.length].replace('$', (char) ('a' + cell % 26)));
            s.append(" at ").append(cell % 7).append(' ').append(cell / 7).append(';');
        }
        return s.toString();
    }

    /** So many of a kind are taken and counted, one more has FAULT 6 at its first byte, whatever stands behind it. */
    private static void most(int what, int most, String word, String... kinds) {
        String full = "island 7 6;" + row(0, most, kinds);
        Check.taken(full, most + 1);
        Check.due("has " + what, most, Check.isle(full).has(what));
        for (String behind : new String[] {"", ";", " at 6 5;", " abcdefg", " 12345", "?", " at 0 0;", " a takes 0"}) {
            Check.faultAt(6, full + "^" + word + behind);
            Check.faultAt(6, full + "\n ^" + word + behind);
        }
        String oneLess = "island 7 6;" + row(0, most - 1, kinds);
        Check.taken(oneLess, most);
        Check.faultAt(1, oneLess + word + " ^?");
    }

    /** "12 WALLS". */
    private static void twelveWalls() {
        most(2, 12, "wall", "wall");
    }

    /** "6 HOUSES". */
    private static void sixHouses() {
        most(3, 6, "house", "house");
    }

    /** "5 CISTERNS". */
    private static void fiveCisterns() {
        most(4, 5, "cistern", "cistern $");
    }

    /** "10 THINGS of these three together". */
    private static void tenThings() {
        for (String word : new String[] {"cloth", "stone", "web"}) {
            most(5, 10, word, "cloth $ takes 1");
            most(5, 10, word, "stone takes 1");
            most(5, 10, word, "web takes 1");
            most(5, 10, word, "cloth $ takes 1", "stone takes 1", "web takes 1");
        }
        Check.due("cloths of these", 4,
            Check.isle("island 7 6;" + row(0, 10, "cloth $ takes 1", "stone takes 1", "web takes 1")).has(6));
        Check.due("ten cloths", 10, Check.isle("island 7 6;" + row(0, 10, "cloth $ takes 1")).has(6));
        // each kind is counted by itself: all of them can be full at once
        String all = "island 7 6;" + row(0, 12, "wall") + row(12, 6, "house") + row(18, 5, "cistern $")
            + row(23, 10, "cloth $ takes 1", "web takes 1");
        Check.taken(all, 34);
        DewBaron x = Check.isle(all);
        int[] due = {12, 6, 5, 10, 5};
        for (int what = 2; what < 7; what++) {
            Check.due("all full: has " + what, due[what - 2], x.has(what));
        }
        Check.due("and all anew", 34, Check.tell(x, all));
    }

    /** "takes N (1 .. 9)", of a cloth, a stone, a web. */
    private static void takes() {
        for (String word : new String[] {"cloth a", "stone", "web"}) {
            for (int takes = 1; takes <= 9; takes++) {
                DewBaron x = Check.isle("island 2 2;" + word + " takes " + takes + " at 0 0;");
                Check.due(word + " takes", takes, x.thing(0, 1));
            }
            Check.faultAt(4, "island 2 2;" + word + " takes ^0 at 0 0;");
            Check.faultAt(4, "island 2 2;" + word + " takes ^10 at 0 0;");
            Check.faultAt(4, "island 2 2;" + word + " takes ^9999 at 0 0;");
        }
    }

    /** "LETTERS: 1 to 12 letters of c (clear), o (cloud), w (wind), s (smoke) .. (those behind them are clear)". */
    private static void lettersOfTheSky() {
        String all = "scwoscwoscwo";
        for (int length = 1; length <= 12; length++) {
            DewBaron x = Check.isle("island 2 2;sky " + all.substring(0, length) + ";");
            for (int hour = 1; hour <= 12; hour++) {
                int due = hour <= length ? "cows".indexOf(all.charAt(hour - 1)) : 0;
                Check.due(length + " letters: HOUR " + hour, due, x.sky(hour));
            }
        }
        Check.faultAt(1, "island 2 2;sky ^scwoscwoscwos;");
        Check.faultAt(1, "island 2 2;sky ^cccccccccccccccccccc;");
        Check.faultAt(1, "island 2 2;sky^;");
        Check.faultAt(1, "island 2 2;sky ^;");
        for (char letter = 'a'; letter <= 'z'; letter++) {
            if ("cows".indexOf(letter) < 0) {
                Check.faultAt(1, "island 2 2;sky ^" + letter + ";");
                Check.faultAt(1, "island 2 2;sky ^ccccccccccc" + letter + ";");
            } else {
                Check.taken("island 2 2;sky ccccccccccc" + letter + ";", 2);
            }
        }
    }

    /** "sky LETTERS (the last one counts; none without)". */
    private static void theLastSkyCounts() {
        DewBaron x = Check.isle("island 2 2;sky oooooooooooo;sky ws;");
        int[] due = {2, 3, 0, 0, 0, 0, 0, 0, 0, 0, 0, 0};
        for (int hour = 1; hour <= 12; hour++) {
            Check.due("the last sky: HOUR " + hour, due[hour - 1], x.sky(hour));
        }
        Check.tell(x, "island 2 2;");
        for (int hour = 1; hour <= 12; hour++) {
            Check.due("without: HOUR " + hour, 0, x.sky(hour));
        }
    }

    /** "where LETTERS are asked, whatever is none such whole, at its first byte". */
    private static void whereLettersAreAsked() {
        for (String no : new String[] {"1", "1234", "12345", "123456", "at", "dew", "cistern", "abcdefg", "cowscowx",
            "cccccccccccca", "(", "?", "C", "-c"}) {
            Check.faultAt(1, "island 2 2;sky ^" + no);
            Check.faultAt(1, "island 2 2;sky\n^" + no + ";");
        }
        // elsewhere it is the 7th letter, the 5th digit
        Check.faultAt(1, "island 2 2;sky cows abcdef^g;");
        Check.faultAt(1, "island 2 2;sky cows 1234^5;");
        Check.faultAt(1, "island 2 2;sky cows ^cows;");
        Check.faultAt(1, "island 2 2;sky cows^1;");
    }

    /** "dew SUM, dries SUM (one each)"; "(a second dew, dries, too)". */
    private static void oneDewOneDries() {
        Check.taken("island 2 2;dew 1;dries 1;", 3);
        Check.taken("island 2 2;dries 1;dew 1;", 3);
        Check.faultAt(6, "island 2 2;dew 1;^dew 1;");
        Check.faultAt(6, "island 2 2;dries 1;^dries 1;");
        Check.faultAt(6, "island 2 2;dew 0;dries 0;wring 1;^dew ((((((((");
        Check.faultAt(6, "island 2 2;dries 0;dew 0;\n^dries");
        DewBaron x = Check.isle("island 2 2;dew 1;dries 1;web takes 1 at 0 0;");
        Check.due("one each, of each ISLAND", 3, Check.tell(x, "island 2 2;dew 1;dries 1;"));
        Check.due("0 without dew", 0, Check.isle("island 2 2;web takes 9 at 0 0;dries 1;").whole(0));
        Check.due("0 without dries", 0, Check.isle("island 2 2;web takes 9 at 0 0;dew 1;").whole(1));
        Check.tell(x, "island 2 2;dew 9;dries 5;web takes 1 at 0 0;");
        Check.tell(x, "island 2 2;web takes 1 at 0 0;");
        Check.due("0 without, whatever there was before", 0, x.whole(0));
    }

    private static void setting(int what, String word, int least, int most, int without) {
        Check.due(word + " without", without, Check.isle("island 2 2;").has(what));
        Check.due("the least", least, Check.isle("island 2 2;" + word + " " + least + ";").has(what));
        Check.due("the most", most, Check.isle("island 2 2;" + word + " " + most + ";").has(what));
        Check.faultAt(4, "island 2 2;" + word + " ^" + (most + 1) + ";");
        Check.faultAt(4, "island 2 2;" + word + " ^9999;");
        DewBaron x = Check.isle("island 2 2;" + word + " " + most + ";" + word + " " + least + ";");
        Check.due("the last one counts", least, x.has(what));
        Check.tell(x, "island 2 2;" + word + " " + least + ";" + word + " 7;" + word + " " + most + ";");
        Check.due("the last one counts", most, x.has(what));
        Check.tell(x, "island 2 2;" + word + " 8;" + word + " " + (most + 1) + ";");
        Check.due("a FAULT changes nothing", most, x.has(what));
        Check.tell(x, "island 2 2;");
        Check.due("without, in the next ISLAND", without, x.has(what));
    }

    /** "drinks N (0 .. 999 .. ; the last one counts; 0 without)". */
    private static void drinks() {
        setting(7, "drinks", 0, 999, 0);
    }

    /** "cloudy N (0 .. 100; likewise)". */
    private static void cloudy() {
        setting(8, "cloudy", 0, 100, 0);
    }

    /** "wring N (1 .. 20 minutes; likewise; 5 without)". */
    private static void wring() {
        setting(9, "wring", 1, 20, 5);
        Check.faultAt(4, "island 2 2;wring ^0;");
        Check.due("without an island", 5, new DewBaron().has(9));
    }

    /** "NAMES: 1 to 6 letters"; "a 7th letter of what is no OWN WORD .. at itself, whatever may stand there". */
    private static void lettersOfAName() {
        String[] names = {"q", "qz", "qzq", "qzqz", "qzqzq", "qzqzqz"};
        for (String name : names) {
            Check.taken("island 2 2;cistern " + name + " at 0 0;", 2);
            Check.taken("island 2 2;cloth " + name + " takes 1 at 0 0;", 2);
        }
        Check.faultAt(1, "island 2 2;cistern qzqzqz^q at 0 0;");
        Check.faultAt(1, "island 2 2;cloth qzqzqz^qzqzqz");
        Check.faultAt(1, "island 2 2;cistern ^at 0 0;");
        Check.faultAt(1, "island 2 2;cloth ^takes 1 at 0 0;");
        Check.faultAt(1, "island 2 2;cistern ^7 at 0 0;");
        Check.faultAt(1, "island 2 2;cistern ^; at 0 0;");
        // wherever it stands: where a STATEMENT begins, where a number, a sign, a SUM, another word is asked
        Check.faultAt(1, "qzqzqz^q");
        Check.faultAt(1, "island qzqzqz^q 2;");
        Check.faultAt(1, "island 2 2 qzqzqz^q;");
        Check.faultAt(1, "island 2 2;qzqzqz^q;");
        Check.faultAt(1, "island 2 2;wall qzqzqz^q;");
        Check.faultAt(1, "island 2 2;dew qzqzqz^q;");
        Check.faultAt(1, "island 2 2;dew 1+qzqzqz^q;");
        Check.faultAt(1, "island 2 2;dew 1 qzqzqz^q;");
        Check.faultAt(1, "island 2 2;cister^ns a at 0 0;");
        Check.faultAt(1, "island 2 2;cister^m a at 0 0;");
        // six letters may not stand there either, but that is told at the first one
        Check.faultAt(1, "island 2 2;^qzqzqz;");
        Check.faultAt(1, "island 2 2;dew ^qzqzqz;");
        Check.faultAt(1, "island 2 2 ^cistern;");
    }

    /** "unlike ones (of all sorts)"; "2 a NAME to be given that is there already, at its first byte". */
    private static void unlikeNames() {
        String[] named = {"cistern $", "cloth $ takes 1"};
        for (String first : named) {
            for (String second : named) {
                String text = "island 3 2;" + first.replace("$", "abcdef") + " at 0 0;";
                String head = second.substring(0, second.indexOf('$'));
                String tail = second.substring(second.indexOf('$') + 1);
                Check.faultAt(2, text + head + "^abcdef" + tail + " at 1 0;");
                Check.faultAt(2, text + head + "^abcdef" + tail + " at 9 9;");
                Check.faultAt(2, text + head + "\n^abcdef");
                Check.taken(text + head + "abcde" + tail + " at 1 0;", 3);
                Check.taken(text + head + "abcdee" + tail + " at 1 0;", 3);
                Check.taken(text + head + "bbcdef" + tail + " at 1 0;", 3);
                Check.taken(text + head + "bcdef" + tail + " at 1 0;", 3);
            }
        }
        // the first of five, the last of ten
        String full = "island 7 6;" + row(0, 5, "cistern $") + row(7, 9, "cloth $ takes 1");
        Check.faultAt(2, full + "cloth ^a takes 1 at 6 5;");
        Check.faultAt(2, full + "cloth ^e takes 1 at 6 5;");
        Check.faultAt(2, full + "cloth ^h takes 1 at 6 5;");
        Check.faultAt(2, full + "cloth ^p takes 1 at 6 5;");
        Check.taken(full + "cloth q takes 1 at 6 5;", 16);
        DewBaron x = Check.isle("island 2 2;cistern a at 0 0;cloth b takes 1 at 1 0;");
        Check.due("NAMES of another ISLAND are free again", 3,
            Check.tell(x, "island 2 2;cistern b at 0 0;cloth a takes 1 at 1 0;"));
    }

    /** "OWN WORDS, which no NAME is"; "1 .. an OWN WORD where a NAME must be". */
    private static void noOwnWordIsAName() {
        for (String word : OWN_WORDS) {
            Check.faultAt(1, "island 2 2;cistern ^" + word + " at 0 0;");
            Check.faultAt(1, "island 2 2;cloth ^" + word + " takes 1 at 0 0;");
            if (!word.equals("cloudy")) {
                Check.taken("island 2 2;cistern " + word.substring(0, word.length() - 1) + " at 0 0;", 2);
            }
            if (word.length() < 6) {
                Check.taken("island 2 2;cistern " + word + "x at 0 0;", 2);
            }
        }
        Check.taken("island 2 2;cistern ccc at 0 0;cloth cows takes 1 at 1 0;sky cows;", 4);
    }

    /** "NUMBERS: 1 to 4 digits"; "a 5th digit, at itself, whatever may stand there". */
    private static void digits() {
        Check.taken("island 2 02;", 1);
        Check.taken("island 002 0002;", 1);
        Check.faultAt(1, "island 0000^2 2;");
        Check.faultAt(1, "island 2 0000^2;");
        Check.faultAt(1, "island 2 0000^222;");
        Check.due("9999", 99, Check.isle("island 2 2;web takes 1 at 0 0;dew 9999-9900;").dew(0, 1, 0));
        Check.faultAt(1, "island 2 2;dew 9999^9;");
        Check.faultAt(1, "island 2 2;dew 0000^0;");
        Check.due("0999", 999, Check.isle("island 2 2;drinks 0999;").has(7));
        Check.faultAt(1, "island 2 2;drinks 0099^9;");
        Check.faultAt(1, "island 2 2;wall at 0 0000^0;");
        // wherever it stands
        Check.faultAt(1, "1234^5");
        Check.faultAt(1, "island 2 2;1234^5;");
        Check.faultAt(1, "island 2 2 1234^5;");
        Check.faultAt(1, "island 2 2;cistern 1234^56");
        Check.faultAt(1, "island 2 2;dew 1 1234^5;");
        Check.faultAt(1, "island 2 2;^1234;");
        Check.faultAt(1, "island 2 2;dew 1 ^1234;");
    }

    /** "Blanks (10, 32) are where one likes". */
    private static void blanks() {
        Check.taken("\n \nisland\n2 \n 2 ; wall\nat 0\n0 ;\ndew ( 1 + 2 ) * min ( 3\n,\n4 ) ;\n \n", 3);
        Check.taken("island 2 2;wall at 0 0;dew(1+2)*min(3,4)-takes%(wet);sky c;", 4);
        for (int octet = 0; octet < 256; octet++) {
            boolean blank = octet == 10 || octet == 32;
            String ahead = (char) octet + "island 2 2;";
            String within = "island 2 2" + (char) octet + ";";
            String behind = "island 2 2;" + (char) octet;
            if (blank) {
                Check.taken(ahead, 1);
                Check.taken(within, 1);
                Check.taken(behind, 1);
            } else {
                boolean letter = octet >= 'a' && octet <= 'z';
                boolean digit = octet >= '0' && octet <= '9';
                // with a letter ahead of it "island" has seven letters, of which the last is one too many
                Check.fault(ahead, 1, letter ? 6 : 0);
                Check.fault(behind, 1, 11);
                if (!digit && octet != ';') {
                    Check.fault(within, 1, 10);
                }
            }
        }
        Check.faultAt(1, "^is land 2 2;");
        Check.faultAt(4, "island 2 ^1 2;");
        Check.faultAt(1, "island 2 2;wall at 0 0 ^1;");
        Check.faultAt(1, "island 2 2;dew 1 ^0;");
        Check.faultAt(1, "island 2 2;dew ^mi n(1,2);");
    }

    /** "words and numbers side by side need one". */
    private static void whereABlankIsNeeded() {
        Check.faultAt(1, "island^2 2;");
        Check.faultAt(1, "island^22222 2;");
        Check.faultAt(1, "island 2 2;wall at^0 0;");
        Check.faultAt(1, "island 2 2;height 1^at 0 0;");
        Check.faultAt(1, "island 2 2;stone takes^1 at 0 0;");
        Check.faultAt(1, "island 2 2;stone takes 1^at 0 0;");
        Check.faultAt(1, "island 2 2;stone takes 1^atatatat 0 0;");
        Check.faultAt(1, "island 2 2;cistern a^1 at 0 0;");
        Check.faultAt(1, "island 2 2;drinks^1;");
        Check.faultAt(1, "island 2 2;dew^1;");
        Check.faultAt(1, "island 2 2;dew 1^takes;");
        Check.faultAt(1, "island 2 2;dew takes^1;");
        Check.faultAt(1, "island 2 2;^skyc;");
        Check.faultAt(1, "island 2 2;^wallat 0 0;");
        Check.faultAt(1, "island 2 2;wall ^ato 0;");
        Check.faultAt(1, "island 2 2;dew takest^akes;");
        // what can't be is told first, as it stands ahead
        Check.faultAt(4, "island ^9x 2;");
        Check.faultAt(1, "island 2 2;^x9;");
    }

    /** "1 the first byte with which no ISLAND goes on (words and numbers whole, at their first byte ..)". */
    private static void wholeAtTheirFirstByte() {
        Check.faultAt(1, "^islan 2 2;");
        Check.faultAt(1, "^x");
        Check.faultAt(1, "^;");
        Check.faultAt(1, "^2 2;");
        Check.faultAt(1, "island ^x 2;");
        Check.faultAt(1, "island 2 ^at;");
        Check.faultAt(1, "island 2 2 ^2;");
        Check.faultAt(1, "island 2 2;^;");
        Check.faultAt(1, "island 2 2;^walls at 0 0;");
        Check.faultAt(1, "island 2 2;^at 0 0;");
        Check.faultAt(1, "island 2 2;^open;");
        Check.faultAt(1, "island 2 2;wall ^takes 0 0;");
        Check.faultAt(1, "island 2 2;wall ^0 0;");
        Check.faultAt(1, "island 2 2;wall at 0^; 0;");
        Check.faultAt(1, "island 2 2;wall at 0^,0;");
        Check.faultAt(1, "island 2 2;height ^at 0 0;");
        Check.faultAt(1, "island 2 2;stone ^a takes 1 at 0 0;");
        Check.faultAt(1, "island 2 2;cloth a ^at 0 0;");
        Check.faultAt(1, "island 2 2;cistern a ^takes 1 at 0 0;");
        Check.faultAt(1, "island 2 2;cistern a ^b at 0 0;");
        Check.faultAt(1, "island 2 2;drinks ^;");
        Check.faultAt(1, "island 2 2;drinks ^-1;");
        Check.faultAt(1, "island 2 2;drinks 1 ^drinks 2;");
        Check.faultAt(1, "island 2 2^:");
    }

    /** "at the text's length, if it ends too soon"; "one without a STATEMENT has FAULT 1 at its length". */
    private static void textsThatEndTooSoon() {
        String[] parts = {"island", "3", "2", ";", "height", "1", "at", "0", "0", ";", "wall", "at", "1", "0", ";",
            "house", "at", "0", "1", ";", "cistern", "a", "at", "0", "0", ";", "cloth", "b", "takes", "1", "at", "1", "1",
            ";", "stone", "takes", "2", "at", "2", "0", ";", "sky", "cows", ";", "dew", "min", "(", "1", "*", "takes", ",",
            "(", "2", "-", "wet", ")", ")", "%", "3", ";", "dries", "hour", "/", "4", ";", "drinks", "1", ";", "cloudy", "1",
            ";", "wring", "1", ";", "web", "takes", "3", "at", "2", "1", ";"};
        StringBuilder text = new StringBuilder();
        int statements = 0;
        Check.faultAt(1, "^");
        for (String part : parts) {
            text.append(part);
            if (part.equals(";")) {
                statements++;
                Check.taken(text.toString(), statements);
                Check.taken(text + " \n", statements);
            } else {
                Check.faultAt(1, text + "^");
                Check.faultAt(1, text + " \n ^");
            }
            text.append(' ');
        }
        Check.faultAt(1, " ^");
        Check.faultAt(1, "\n".repeat(20) + "^");
        Check.faultAt(1, " ".repeat(1600) + "^");
    }

    /** "5 the 8th ( that is open at once, at it". */
    private static void sevenBrackets() {
        for (String word : new String[] {"dew", "dries"}) {
            String text = "island 2 2;" + word + " ";
            Check.taken(text + "(((((((1)))))));", 2);
            Check.faultAt(5, text + "(((((((^(1))))))));");
            Check.faultAt(5, text + "(((((((^(");
            Check.faultAt(5, text + "( ( ( ( ( ( (\n^( 1");
            // those of min and max count too
            Check.taken(text + "min(1,max(2,min(3,max(4,min(5,max(6,min(7,8)))))));", 2);
            Check.faultAt(5, text + "min(1,max(2,min(3,max(4,min(5,max(6,min(7,max^(8,9))))))));");
            Check.faultAt(5, text + "((((((min(1,^(2)))))))));");
            Check.faultAt(5, text + "(((((((min ^(1,2))))))));");
            Check.faultAt(5, text + "1+2*(((((((1-max^(");
            // those that are closed again don't
            Check.taken(text + "(1)" + "+(1)".repeat(20) + ";", 2);
            Check.taken(text + "((((((1)+(2))))))*(((((((1)))))));", 2);
            Check.taken(text + "((((((1)+((2)-(3)))))));", 2);
            Check.faultAt(5, text + "((((((1)+((^(2");
            // where no ( may stand the 8th one is no more than that
            Check.faultAt(1, text + "(((((((1^(");
            Check.faultAt(1, text + "(((((((min^1");
        }
        Check.taken("island 2 2;dew (((((((1)))))));dries (((((((1)))))));", 3);
    }

    /** "SUM: PRODUCT { + or - PRODUCT }. PRODUCT: PART { * or / or % PART }. PART: .." and nothing else. */
    private static void sums() {
        for (String part : new String[] {"0", "9999", "takes", "open", "high", "cold", "hour", "cloud", "wind", "smoke",
            "near", "wet", "(1)", "min(1,2)", "max(1,2)", "1+1", "1-1", "1*1", "1/1", "1%1", "min(1+1,1*1)",
            "max((1),min(1,1))"}) {
            Check.taken("island 2 2;dew " + part + ";dries " + part + ";", 3);
        }
        for (String word : OWN_WORDS) {
            if (" takes open high cold hour cloud wind smoke near wet min max ".indexOf(" " + word + " ") < 0) {
                Check.faultAt(1, "island 2 2;dew ^" + word + ";");
                Check.faultAt(1, "island 2 2;dries 1+^" + word + ";");
            }
        }
        for (String no : new String[] {"^;", "^)", "^+1;", "^-1;", "^*1;", "1+^;", "1+^+1;", "1*^;", "1*^-1;", "1^(2);",
            "1 ^2;", "1 ^takes;", "(1^;", "(^);", "(1^,2);", "1^);", "1^,2;", "min^;", "min ^1,2;", "min(^);", "min(^,1);",
            "min(1^);", "min(1,^);", "min(1,2^,3);", "min(1,2^;", "max^)", "max(1^;2);", "^a;", "takes ^takes;", "1^?1;",
            "1^&1;", "1^=1;", "1^.5;", "^x;"}) {
            Check.faultAt(1, "island 2 2;dew " + no);
        }
    }

    /** "FAULTS, the first along the text". */
    private static void theFirstAlongTheText() {
        Check.faultAt(4, "island ^1 12345;");
        Check.faultAt(4, "island ^8 7;dew 1;dew 1;");
        Check.faultAt(4, "island 2 2;wall at ^2 2;");
        Check.faultAt(4, "island 2 2;wall at ^2 12345;");
        Check.faultAt(1, "island 2 2;wall ^ta 2 2;");
        Check.faultAt(4, "island 2 2;stone takes ^0 at 9 9;");
        Check.faultAt(4, "island 2 2;stone takes 1 at ^9 9;");
        Check.faultAt(2, "island 2 2;cistern a at 0 0;cloth ^a takes 0 at 9 9;");
        Check.faultAt(4, "island 2 2;cistern a at 0 0;cloth b takes 1 at 0 ^0;cistern a");
        Check.faultAt(1, "island 2 2;dew 1+^;dew 1;");
        Check.faultAt(5, "island 2 2;dew (((((((^(12345");
        Check.faultAt(1, "island 2 2;dew ((((((1234^5+((");
        Check.faultAt(6, "island 2 2;dew 1;^dew wall");
        Check.faultAt(4, "island 2 2;drinks ^1000");
        Check.faultAt(1, "island 2 2;drinks 100^");
        Check.faultAt(6, "island 7 6;" + row(0, 5, "cistern $") + "^cistern a at 0 0;");
    }

    /** "letters": letter() tells 1 .. 26 of them, so large ones are none. */
    private static void lettersAreSmall() {
        Check.faultAt(1, "^ISLAND 2 2;");
        Check.faultAt(1, "island 2 2;cistern ^A at 0 0;");
        Check.faultAt(1, "island 2 2;cistern a^B at 0 0;");
        Check.faultAt(1, "island 2 2;sky ^C;");
        Check.faultAt(1, "island 2 2;cistern ^_ at 0 0;");
        Check.faultAt(1, "island 2 2;cistern a^\u00e4 at 0 0;");
    }
}
