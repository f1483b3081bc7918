/** What the tests share: the count of wrong answers, and texts on the tape. */
final class Check {
    /** More lines than these tell nothing new. */
    private static final int TOLD = 60;
    private static int wrong = 0;

    private Check() {
    }

    static void due(String call, long got, long want) {
        if (got != want) {
            tell(call + " answered " + got + ", due is " + want);
        }
    }

    static void due(String call, boolean got, boolean want) {
        due(call, got ? 1 : 0, want ? 1 : 0);
    }

    static void due(String call, String got, String want) {
        if (!got.equals(want)) {
            tell(call + " answered " + got + ", due is " + want);
        }
    }

    private static void tell(String line) {
        wrong++;
        if (wrong <= TOLD) {
            System.out.println(line);
        }
    }

    /** Feeds a text, blanks behind it up to the next twentieth byte. */
    static int feed(SymmetryHouse x, String text) {
        int answer = 0;
        for (int at = 0; at < text.length(); at += 20) {
            int[] words = new int[5];
            for (int k = 0; k < 20; k++) {
                int c = at + k < text.length() ? text.charAt(at + k) : ' ';
                words[k / 4] = words[k / 4] << 8 | c;
            }
            answer = x.feed(words[0], words[1], words[2], words[3], words[4]);
        }
        return answer;
    }

    static int symbol(SymmetryHouse x, int slot, String text) {
        feed(x, text);
        return x.read(slot, text.length(), true);
    }

    static int triples(SymmetryHouse x, int slot, String text) {
        feed(x, text);
        return x.read(slot, text.length(), false);
    }

    static String out(SymmetryHouse x, int length) {
        StringBuilder line = new StringBuilder();
        for (int i = 0; i < length; i++) {
            line.append((char) x.out(i));
        }
        return line.toString();
    }

    static String operator(SymmetryHouse x, int slot, int i, int from, int to) {
        StringBuilder line = new StringBuilder();
        for (int k = from; k <= to; k++) {
            line.append(k > from ? " " : "").append(x.operator(slot, i, k));
        }
        return line.toString();
    }

    static void end() {
        if (wrong != 0) {
            System.out.println(wrong + " answers are not as due");
            System.exit(1);
        }
    }
}
