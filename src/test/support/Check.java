/** What the tests share: a text on the tape, and answers that are due. */
final class Check {
    private static int wrong = 0;
    private static int asked = 0;

    private Check() {
    }

    static void due(String call, long want, long got) {
        asked++;
        if (got != want) {
            wrong++;
            System.out.println(call + " answered " + got + ", due is " + want);
        }
    }

    static void due(String call, boolean want, boolean got) {
        due(call, want ? 1 : 0, got ? 1 : 0);
    }

    /** Puts bytes on the tape, as many of them as there are. */
    static void put(DewBaron x, int... octets) {
        int[] padded = java.util.Arrays.copyOf(octets, (octets.length + 19) / 20 * 20);
        for (int i = 0; i < padded.length; i += 20) {
            x.feed(four(padded, i), four(padded, i + 4), four(padded, i + 8), four(padded, i + 12),
                four(padded, i + 16));
        }
        x.end(octets.length);
    }

    static void put(DewBaron x, String text) {
        put(x, text.chars().toArray());
    }

    static int tell(DewBaron x, String text) {
        put(x, text);
        return x.island();
    }

    static DewBaron isle(String text) {
        DewBaron x = new DewBaron();
        if (tell(x, text) < 0) {
            due("fault of: " + text, 0, x.fault(0));
        }
        return x;
    }

    /** A text that is no ISLAND: which FAULT, and where. */
    static void fault(String text, int kind, int place) {
        DewBaron x = new DewBaron();
        due("island() of: " + text, -1, tell(x, text));
        due("fault(0) of: " + text, kind, x.fault(0));
        due("fault(1) of: " + text, place, x.fault(1));
        due("status(1) of: " + text, 1, x.status(1));
    }

    /** A text with ^ ahead of the byte that its FAULT is told of. */
    static void faultAt(int kind, String marked) {
        int place = marked.indexOf('^');
        fault(marked.substring(0, place) + marked.substring(place + 1), kind, place);
    }

    static void taken(String text, int statements) {
        DewBaron x = new DewBaron();
        due("island() of: " + text, statements, tell(x, text));
        due("fault(0) of: " + text, 0, x.fault(0));
        due("fault(1) of: " + text, -1, x.fault(1));
        due("status(1) of: " + text, 0, x.status(1));
    }

    /** What image() writes. */
    static int[] octets(DewBaron x) {
        int[] octets = new int[x.image()];
        for (int k = 0; k < octets.length; k++) {
            octets[k] = x.octet(k);
        }
        return octets;
    }

    static int seal(int[] octets, int length) {
        int c = 79;
        for (int i = 0; i < length; i++) {
            c = (5 * c + octets[i]) % 251;
        }
        return c;
    }

    /** An image with bytes changed (places and bytes by turns), its last byte made right. */
    static int[] changed(int[] octets, int... changes) {
        int[] it = octets.clone();
        for (int i = 0; i < changes.length; i += 2) {
            it[changes[i]] = changes[i + 1];
        }
        it[it.length - 1] = seal(it, it.length - 1);
        return it;
    }

    static boolean on(DewBaron x, int... octets) {
        put(x, octets);
        return x.on();
    }

    static int four(int[] octets, int at) {
        return octets[at] << 24 | octets[at + 1] << 16 | octets[at + 2] << 8 | octets[at + 3];
    }

    static void end() {
        System.out.println(asked + " answers, " + wrong + " wrong");
        if (wrong != 0 || asked == 0) {
            System.exit(1);
        }
    }
}
