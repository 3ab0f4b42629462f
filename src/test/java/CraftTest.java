/** Promises 21 to 30: wringing, hanging alike, linen, walls taken down, the meadow's walks, stores. */
final class CraftTest {
    public static void main(String[] args) {
        order();
        orderInTheSun();
        orderOfMany();
        wrung();
        alike();
        alikeOfTwo();
        alikeRefuses();
        linen();
        down();
        bestAndVotes();
        aSingleDrop();
        walked();
        walk();
        walkStaysTold();
        walkedRefuses();
        stores();
        Check.end();
    }

    private static void order() {
        // 12, 24, 36 drops; a wringing takes ten minutes, and there is no wall
        DewBaron x = Check.isle("island 3 3;cloth c takes 1 at 0 0;cloth b takes 2 at 0 1;cloth a takes 3 at 0 2;"
            + "dew takes;wring 10;");
        Check.due("got", 24 + 26, x.order(-1));
        int[] due = {1, 2, 0, -1};
        for (int k = 0; k < due.length; k++) {
            Check.due("order " + k, due[k], x.order(k));
        }
        Check.due("order -2", -1, x.order(-2));
        Check.due("order max", -1, x.order(Integer.MAX_VALUE));
        DewBaron dry = Check.isle("island 3 3;cloth c takes 1 at 0 0;cloth b takes 2 at 0 1;cloth a takes 3 at 0 2;"
            + "dew takes;wring 20;");
        // behind 20 minutes 16 of 36 are left, behind 40 none; at most two are of any use
        Check.due("got in long minutes", 24 + 16, dry.order(-1));
        int[] long20 = {1, 2, 0};
        for (int k = 0; k < 3; k++) {
            Check.due("long order " + k, long20[k], dry.order(k));
        }
        DewBaron none = Check.isle("island 2 2;stone takes 1 at 0 0;dew 1;");
        Check.due("no cloths: got", 0, none.order(-1));
        Check.due("no cloths: order 0", -1, none.order(0));
    }

    private static void orderInTheSun() {
        // the second cloth has two walls to its right, one to its left that counts for nothing
        DewBaron x = Check.isle("island 5 2;cloth a takes 1 at 0 0;cloth b takes 1 at 1 1;wall at 2 1;wall at 4 1;"
            + "wall at 0 1;dew 1;wring 20;");
        Check.due("got", 24, x.order(-1));
        Check.due("the first", 0, x.order(0));
        Check.due("the one in the shade", 1, x.order(1));
        DewBaron y = Check.isle("island 5 2;cloth b takes 1 at 1 1;cloth a takes 1 at 0 0;wall at 2 1;wall at 4 1;"
            + "dew 1;wring 20;");
        Check.due("the other way: first", 1, y.order(0));
        Check.due("the other way: then", 0, y.order(1));
        y.wall(9, false);
        Check.due("ten minutes of sun", 14, y.order(-1));
        DewBaron z = Check.isle("island 5 2;cloth b takes 1 at 1 1;cloth a takes 1 at 0 0;wall at 2 1;dew 1;wring 11;");
        Check.due("the first drop in the minute behind", 23, z.order(-1));
    }

    private static void orderOfMany() {
        StringBuilder text = new StringBuilder("island 7 6;dew takes;wring 1;");
        for (int i = 0; i < 6; i++) {
            text.append("cloth ").append((char) ('a' + i)).append(" takes 3 at ").append(i).append(" 0;");
        }
        DewBaron six = Check.isle(text.toString());
        Check.due("six cloths", 6 * 36 - 15, six.order(-1));
        for (int k = 0; k < 6; k++) {
            Check.due("like ones " + k, k, six.order(k));
        }
        DewBaron seven = Check.isle(text + "cloth q takes 1 at 0 1;");
        Check.due("seven cloths", -1, seven.order(-1));
        Check.due("seven cloths: the first", -1, seven.order(0));
        Check.put(seven, 0, 1, 2, 3, 4, 5, 6);
        Check.due("seven can be wrung all the same", 6 * 36 - 15 + 12 - 6, seven.wrung());
    }

    private static void wrung() {
        DewBaron x = Check.isle("island 3 3;cloth c takes 1 at 0 0;stone takes 9 at 1 1;cloth b takes 2 at 0 1;"
            + "cloth a takes 3 at 0 2;wall at 2 0;dew takes;");
        int[][] orders = {{0, 1, 2}, {0, 2, 1}, {1, 0, 2}, {1, 2, 0}, {2, 0, 1}, {2, 1, 0}};
        // five minutes each; the first cloth is in the shade for ten minutes
        int[] due = {12 + 19 + 26, 12 + 31 + 14, 24 + 12 + 26, 24 + 31 + 12, 36 + 12 + 14, 36 + 19 + 12};
        for (int i = 0; i < orders.length; i++) {
            Check.put(x, orders[i]);
            Check.due("wrung of " + i, due[i], x.wrung());
        }
        Check.due("the tape went", false, x.end(1));
        Check.due("nothing is lost by asking", 12, x.thing(0, 4));
        int[][] wrong = {{}, {0, 1}, {0, 1, 2, 0}, {0, 1, 1}, {0, 1, 3}, {0, 1, 255}, {0, 0, 0}};
        for (int i = 0; i < wrong.length; i++) {
            Check.put(x, wrong[i]);
            Check.due("wrung of wrong " + i, -1, x.wrung());
            Check.due("the tape went of wrong " + i, false, x.end(1));
        }
        Check.due("status(5)", wrong.length, x.status(5));
        Check.due("no cloths", 0, Check.isle("island 2 2;").wrung());
    }

    private static void alike() {
        // a row: cisterns at both ends, a stone of 24 drops for the left one, a cloth of 36
        DewBaron x = Check.isle("island 7 2;cistern a at 0 0;cistern b at 6 0;stone takes 2 at 1 0;"
            + "cloth c takes 3 at 2 0;dew takes;");
        Check.due("60 and 0 now", 60, x.cistern(0, 2));
        Check.due("how much more", 12, x.alike(1, -1));
        Check.due("the CELL", 4, x.alike(1, 0));
        Check.due("all together", 60, x.alike(1, 20));
        Check.due("nothing is hung", 2, x.thing(1, 0));
        Check.due("alike 1 1", -1, x.alike(1, 1));
        Check.due("alike 1 -2", -1, x.alike(1, -2));
        Check.due("alike 1 19", -1, x.alike(1, 19));
        Check.due("alike 1 21", -1, x.alike(1, 21));
        x.wall(4, true);
        Check.due("the next free one", 5, x.alike(1, 0));
        x.undo();
        Check.due("the first one again", 4, x.alike(1, 0));
        // of like ones the most drops: high CELLS get more; one CISTERN is the fullest and the emptiest
        DewBaron one = Check.isle("island 3 3;cistern a at 0 0;cloth c takes 1 at 1 0;dew high;height 2 at 2 1;"
            + "height 2 at 2 2;height 3 at 0 0;");
        Check.due("one CISTERN", 0, one.alike(1, -1));
        Check.due("the most drops", 24, one.alike(1, 20));
        Check.due("the first of these", 5, one.alike(1, 0));
        // its own CELL counts too
        DewBaron own = Check.isle("island 2 2;cistern a at 0 0;cloth c takes 1 at 1 0;dew 1;wall at 0 1;wall at 1 1;");
        Check.due("its own CELL", 1, own.alike(1, 0));
    }

    private static void alikeOfTwo() {
        DewBaron x = Check.isle("island 7 2;cistern a at 0 0;cistern b at 6 0;stone takes 2 at 1 0;"
            + "cloth c takes 3 at 2 0;cloth d takes 1 at 3 0;dew takes;");
        Check.due("how much more", 0, x.alike(2, -1));
        Check.due("cloth 0", 4, x.alike(2, 0));
        Check.due("cloth 1, in its own CELL", 3, x.alike(2, 1));
        Check.due("all together", 72, x.alike(2, 20));
        Check.due("alike 2 2", -1, x.alike(2, 2));
        Check.due("of the first one alone", 0, x.alike(1, -1));
        // two CELLS are left: neither cloth may take the other one's
        DewBaron tight = Check.isle("island 2 2;cistern a at 0 0;cloth c takes 1 at 1 0;cloth d takes 2 at 0 1;"
            + "wall at 1 1;height 9 at 1 0;dew takes*high;");
        Check.due("cloth 0 stays", 1, tight.alike(2, 0));
        Check.due("cloth 1 stays", 2, tight.alike(2, 1));
        Check.due("as it is", 108, tight.alike(2, 20));
        // one free CELL for two
        DewBaron free = Check.isle("island 2 2;cistern a at 0 0;cloth c takes 1 at 1 0;cloth d takes 2 at 0 1;"
            + "height 9 at 1 1;dew takes*high;");
        Check.due("the one that gets more moves", 1, free.alike(2, 0));
        Check.due("into the free one", 3, free.alike(2, 1));
        Check.due("what it gets", 18 * 12, free.alike(2, 20));
    }

    private static void alikeRefuses() {
        DewBaron x = Check.isle("island 3 2;cistern a at 0 0;cloth c takes 3 at 2 0;dew takes;");
        Check.due("one cloth for two", -1, x.alike(2, -1));
        Check.due("alike 0", -1, x.alike(0, -1));
        Check.due("alike 3", -1, x.alike(3, -1));
        Check.due("alike -1", -1, x.alike(-1, 20));
        DewBaron dry = Check.isle("island 3 2;cloth c takes 3 at 2 0;dew takes;");
        Check.due("no CISTERNS", -1, dry.alike(1, -1));
        Check.due("no CISTERNS, a CELL", -1, dry.alike(1, 0));
        DewBaron three = Check.isle("island 3 2;cistern a at 0 0;cloth c takes 3 at 2 0;cloth d takes 3 at 1 0;"
            + "cloth e takes 3 at 1 1;dew takes;");
        Check.due("three are not asked for", -1, three.alike(3, -1));
        Check.due("two of three", 108, three.alike(2, 20));
    }

    private static void linen() {
        // 24, 12, 36, 12 drops; the stone counts for nothing
        DewBaron x = Check.isle("island 3 3;cloth a takes 2 at 0 0;stone takes 9 at 1 1;cloth b takes 1 at 1 0;"
            + "cloth c takes 3 at 2 0;cloth d takes 1 at 2 2;dew takes;");
        int[][] due = {{0, 0, 0}, {1, 1, 1}, {12, 1, 1}, {24, 1, 1}, {25, 1, 4}, {36, 1, 4}, {37, 2, 5}, {48, 2, 5},
            {60, 2, 5}, {61, 3, 7}, {72, 3, 7}, {73, 4, 15}, {84, 4, 15}, {85, -1, -1}};
        for (int[] row : due) {
            Check.due("linen " + row[0] + " 0", row[1], x.linen(row[0], 0));
            Check.due("linen " + row[0] + " 1", row[2], x.linen(row[0], 1));
        }
        Check.due("linen -1", -1, x.linen(-1, 0));
        Check.due("linen max", -1, x.linen(Integer.MAX_VALUE, 1));
        Check.due("linen 1 2", -1, x.linen(1, 2));
        Check.due("linen 1 -1", -1, x.linen(1, -1));
        Check.due("linen 0 2", -1, x.linen(0, 2));
        Check.due("no cloths", 0, Check.isle("island 2 2;").linen(0, 1));
        Check.due("no cloths, a drop", -1, Check.isle("island 2 2;").linen(1, 1));
    }

    /** CISTERNS at both ends; two walls beside a cloth on the left, one beside a cloth on the right. */
    private static DewBaron dammed() {
        return Check.isle("island 7 2;cistern a at 0 0;cistern b at 6 0;cloth c takes 1 at 1 0;cloth d takes 1 at 6 1;"
            + "wall at 2 0;wall at 2 1;wall at 5 1;height 1 at 4 1;dew open-cold/12;");
    }

    private static void down() {
        DewBaron x = dammed();
        int left = x.cistern(0, 2);
        int right = x.cistern(1, 2);
        for (int cell : new int[] {2, 9, 12}) {
            int toLeft = x.down(cell, 0);
            int toRight = x.down(cell, 1);
            Check.due("all stays", 3, x.has(2));
            x.wall(cell, false);
            Check.due("down " + cell + " 0", x.cistern(0, 2) - left, toLeft);
            Check.due("down " + cell + " 1", x.cistern(1, 2) - right, toRight);
            x.undo();
        }
        Check.due("a wall less beside it", 12, x.down(2, 0));
        Check.due("none of the other one's", 0, x.down(2, 1));
        Check.due("no wall", -1000000000, x.down(3, 0));
        Check.due("no CELL", -1000000000, x.down(14, 0));
        Check.due("no CELL below", -1000000000, x.down(-1, 0));
        Check.due("no CISTERN", -1000000000, x.down(2, 2));
        Check.due("no CISTERN below", -1000000000, x.down(2, -1));
        DewBaron less = Check.isle("island 3 2;cistern a at 0 0;cloth c takes 1 at 1 0;wall at 2 0;dew 8-open;");
        Check.due("less: below 0", -12, less.down(2, 0));
    }

    private static void bestAndVotes() {
        DewBaron x = dammed();
        Check.due("of like ones the first", 2, x.best(0));
        Check.due("best for the other", 12, x.best(1));
        Check.due("best of none", -1, x.best(2));
        Check.due("best of -1", -1, x.best(-1));
        for (int cell : new int[] {2, 9, 12}) {
            int yes = 0;
            int no = 0;
            for (int c = 0; c < 2; c++) {
                yes += x.down(cell, c) > 0 ? 1 : 0;
                no += x.down(cell, c) < 0 ? 1 : 0;
            }
            Check.due("votes " + cell + " 0", yes, x.votes(cell, 0));
            Check.due("votes " + cell + " 1", no, x.votes(cell, 1));
        }
        Check.due("votes 3", -1, x.votes(3, 0));
        Check.due("votes 14", -1, x.votes(14, 0));
        Check.due("votes -1", -1, x.votes(-1, 0));
        Check.due("votes 2 2", -1, x.votes(2, 2));
        Check.due("votes 2 -1", -1, x.votes(2, -1));
        DewBaron less = Check.isle("island 3 2;cistern a at 0 0;cloth c takes 1 at 1 0;wall at 2 0;dew 8-open;");
        Check.due("not above 0", -1, less.best(0));
        Check.due("for it", 0, less.votes(2, 0));
        Check.due("against it", 1, less.votes(2, 1));
        DewBaron more = Check.isle("island 4 3;cistern a at 0 0;cloth c takes 1 at 2 1;cloth d takes 1 at 0 1;wall at 1 0;"
            + "wall at 1 1;wall at 3 2;dew open;");
        Check.due("two cloths beside one wall", 24, more.down(1, 0));
        Check.due("one beside the last", 12, more.down(11, 0));
        Check.due("the first of like ones", 1, more.best(0));
        more.wall(1, false);
        Check.due("the next best", 5, more.best(0));
        DewBaron none = Check.isle("island 2 2;wall at 0 0;");
        Check.due("no CISTERNS vote", 0, none.votes(0, 0));
    }

    private static void aSingleDrop() {
        String text = "island 3 2;cistern a at 0 0;cloth c takes 1 at 1 0;wall at 2 0;dew max(0,2-hour)*";
        DewBaron more = Check.isle(text + "(open-7);");
        Check.due("one more", 1, more.down(2, 0));
        Check.due("best by one", 2, more.best(0));
        Check.due("for it by one", 1, more.votes(2, 0));
        Check.due("none against it", 0, more.votes(2, 1));
        DewBaron less = Check.isle(text + "(8-open);");
        Check.due("one less", -1, less.down(2, 0));
        Check.due("none for it", 0, less.votes(2, 0));
        Check.due("against it by one", 1, less.votes(2, 1));
        DewBaron like = Check.isle(text + "1;");
        Check.due("all alike", 0, like.down(2, 0));
        Check.due("none is best", -1, like.best(0));
        Check.due("none for, none against", 0, like.votes(2, 0) + like.votes(2, 1));
        Check.due("the THING with a single drop", 0, like.whole(4));
    }

    private static int walks(DewBaron x, int... cells) {
        Check.put(x, cells);
        return x.walked();
    }

    private static void walked() {
        DewBaron x = Check.isle("island 4 4;wall at 3 3;house at 0 0;");
        Check.due("both ways", 2, walks(x, 0, 1));
        Check.due("told in any order", 2, walks(x, 2, 0, 1));
        Check.due("from the edge alone", 1, walks(x, 5, 1));
        Check.due("not from within", 0, walks(x, 5, 6));
        Check.due("not over a gap", 0, walks(x, 0, 2));
        Check.due("not round the row's end", 0, walks(x, 3, 4));
        Check.due("not over a wall", 0, walks(x, 11, 15));
        Check.due("a square, three at the edge, two ways", 6, walks(x, 2, 3, 6, 7));
        Check.due("a tee has none", 0, walks(x, 0, 1, 2, 5));
        Check.due("ten", true, walks(x, 0, 1, 2, 3, 4, 5, 6, 7, 8, 9) > 0);
        Check.due("the tape went", false, x.end(1));
        x.wall(15, false);
        Check.due("no wall any more", 2, walks(x, 11, 15));
        Check.due("status(5)", 0, x.status(5));
    }

    private static void walk() {
        DewBaron x = Check.isle("island 4 4;");
        Check.due("none told", -1, x.walk(0));
        walks(x, 7, 6, 2, 3);
        int[] due = {2, 3, 7, 6};
        for (int k = 0; k < 4; k++) {
            Check.due("walk " + k, due[k], x.walk(k));
        }
        Check.due("walk 4", -1, x.walk(4));
        Check.due("walk -1", -1, x.walk(-1));
        walks(x, 5, 6);
        Check.due("no WALK", -1, x.walk(0));
        walks(x, 5, 6, 7);
        Check.due("from the edge", 7, x.walk(0));
        Check.due("inwards", 5, x.walk(2));
        walks(x, 0, 0);
        Check.due("a refused one changes nothing", 7, x.walk(0));
        x.night();
        Check.due("nor does a NIGHT", 6, x.walk(1));
        Check.tell(x, "island 4 4;");
        Check.due("no walk is told", -1, x.walk(0));
    }

    /** The WALKS are those that were told: no ACT and no image changes them. */
    private static void walkStaysTold() {
        DewBaron x = Check.isle("island 4 4;cloth a takes 1 at 0 0;");
        int[] image = Check.octets(x);
        walks(x, 5, 6, 7);
        Check.due("a wall on the way", true, x.wall(6, true));
        Check.due("it stays told", 7, x.walk(0));
        Check.due("through the wall", 6, x.walk(1));
        Check.due("as long as it was", -1, x.walk(3));
        Check.due("a cloth at its end", true, x.hang(0, 5));
        Check.due("is trodden too", 5, x.walk(2));
        Check.due("told anew, the wall is on the way", 0, walks(x, 5, 6, 7));
        Check.due("no WALK", -1, x.walk(0));
        Check.due("the wall is undone", true, x.undo() && x.undo());
        Check.due("none was told", -1, x.walk(0));
        Check.due("told once more", 1, walks(x, 7, 6, 5));
        x.wall(6, true);
        Check.put(x, image);
        Check.due("an image", true, x.on());
        Check.due("does not forget it", 7, x.walk(0));
        Check.put(x, image);
        Check.due("a refused text", -1, x.island());
        Check.due("neither", 5, x.walk(2));
    }

    private static void walkedRefuses() {
        DewBaron x = Check.isle("island 4 3;");
        int[][] wrong = {{}, {0}, {0, 0}, {0, 1, 0}, {0, 12}, {0, 255}, {0, 1, 2, 3, 4, 5, 6, 7, 8, 9, 10}};
        for (int i = 0; i < wrong.length; i++) {
            Check.due("wrong " + i, -1, walks(x, wrong[i]));
            Check.due("the tape went of wrong " + i, false, x.end(1));
        }
        Check.due("status(5)", wrong.length, x.status(5));
        Check.due("no island", -1, walks(new DewBaron(), 0, 1));
    }

    private static void stores() {
        DewBaron x = Check.isle("island 5 2;cistern a at 0 0;cistern b at 4 0;stone takes 1 at 1 0;stone takes 2 at 3 0;"
            + "dew takes;drinks 20;");
        Check.due("the first NIGHT", 1, x.stores(0));
        Check.due("the first CISTERN", 0, x.stores(1));
        Check.due("stores 2", -1, x.stores(2));
        Check.due("stores -1", -1, x.stores(-1));
        DewBaron y = Check.isle("island 5 2;cistern a at 0 0;cistern b at 4 0;stone takes 3 at 1 0;stone takes 2 at 3 0;"
            + "dew takes*(hour-11);drinks 3;");
        // three come into the first one, two into the other one, which gives one more of what it has
        Check.due("fed enough: the first", 1, y.stores(0));
        Check.due("fed enough: which", 1, y.stores(1));
        on(y, 0, 0, 0, 0, 0, 0, 0, 0, 0, 0, 0, 0, 0, 0, 0, 5);
        Check.due("five in store", 6, y.stores(0));
        y.night();
        Check.due("from now on", 5, y.stores(0));
        Check.due("no NIGHT went by", 1, y.has(10));
        // ten are drunk each NIGHT: 9989 drops last for 998 of them, 9990 for 999
        DewBaron full = Check.isle("island 2 2;cistern a at 0 0;drinks 10;");
        on(full, 0, 0, 0, 0, 0, 0, 9989 / 256, 9989 % 256);
        Check.due("in the last one", 999, full.stores(0));
        Check.due("in the last one: which", 0, full.stores(1));
        on(full, 0, 0, 0, 0, 0, 0, 9990 / 256, 9990 % 256);
        Check.due("behind it", -1, full.stores(0));
        Check.due("behind it: which", -1, full.stores(1));
        DewBaron enough = Check.isle("island 2 2;cistern a at 0 0;stone takes 1 at 1 0;dew 1;drinks 12;");
        Check.due("just enough", -1, enough.stores(0));
        Check.due("just enough: which", -1, enough.stores(1));
        Check.due("nothing is drunk", -1, Check.isle("island 2 2;cistern a at 0 0;").stores(0));
        Check.due("no CISTERNS", -1, Check.isle("island 2 2;drinks 9;").stores(0));
    }

    /** Takes an image that is told but for its last byte. */
    private static void on(DewBaron x, int... ahead) {
        int[] octets = java.util.Arrays.copyOf(ahead, ahead.length + 1);
        octets[ahead.length] = Check.seal(octets, ahead.length);
        Check.due("on", true, Check.on(x, octets));
    }
}
