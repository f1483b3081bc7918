import java.util.NoSuchElementException;
import java.util.Random;

/**
 * Long runs of calls, the same every time, on the class and on the naive model beside it. The class counts no calls,
 * so an object may have more than 512 of them here.
 */
public final class AgainstNaiveTest {
    private static final String[] SYMBOLS = {
        "P 1", "-P 1", "P 2y", "P 2yb", "C 2y", "P -2y", "P -2yc", "C -2yc", "-P 2yb", "-C 2yc", "-P 2ybc", "A 2x",
        "P 2 2", "P 2c 2", "P 2 2ab", "P 2ac 2ab", "C 2c 2", "F 2 2", "I 2b 2c", "P 2c -2ac", "F 2 -2d", "-P 2 2",
        "P 2 2 -1n", "-P 2ac 2n", "-P 2ab 2ac", "F 2 2 -1d", "-F 2uv 2vw", "-I 2b 2c", "B 2x 2y", "P 4", "P 41",
        "P 42", "P 43", "I 41b", "P -4", "-P 4", "I 4bw -1bw", "P 4 2", "P 4ab 2ab", "P 41 2c", "P 4abw 2nw",
        "I 4bw 2bw", "P 4 -2ab", "I 4bw -2c", "P -4 2", "P -4 -2", "I -4 2bw", "-P 4 2", "P 4 2 -1ab", "-I 4bd 2c",
        "P 3", "P 31", "P 32", "R 3", "P 3*", "-P 3*", "P 3 2", "P 3 2\"", "P 31 2c (0 0 1)", "P 31 2\"",
        "P 32 2c (0 0 -1)", "R 3 2\"", "P 3* 2", "P 3 -2\"", "P 3* -2n", "-P 3 2c", "-R 3 2\"c", "-P 3* 2n", "P 6",
        "P 61", "P 65", "P 62", "P 64", "P 63", "P -6", "-P 6c", "P 6 2", "P 61 2 (0 0 -1)", "P 62 2c (0 0 1)",
        "P 6 -2", "P -6 2", "P -6c 2", "-P 6 2", "-P 6c 2c", "P 2 2 3", "F 2 2 3", "P 2ac 2ab 3", "I 2b 2c 3",
        "-P 2 2 3", "P 2 2 3 -1n", "F 2 2 3 -1d", "-F 2uv 2vw 3", "P 4 2 3", "P 4n 2 3", "F 4d 2 3",
        "P 4acd 2ab 3", "I 4bd 2c 3", "P -4 2 3", "F -4 2 3", "P -4n 2 3", "F -4a 2 3", "I -4bd 2c 3",
        "-P 4 2 3", "P 4 2 3 -1n", "-P 4n 2 3", "-F 4 2 3", "-F 4a 2 3", "F 4d 2 3 -1d", "-F 4vw 2vw 3",
        "F 4d 2 3 -1ad", "-F 4ud 2vw 3", "-I 4 2 3", "-I 4bd 2c 3", "P 4x 2'", "P 6y 2\"", "P 3x 2", "P 3* 2'",
        "P 2' 2\"", "P 1 2 3", "P 1 2 3 4", "P 2 3 4 6", "P 4 6", "-F 4u 2 3", "P 4 3*", "F 2u 2v", "P 1u 1v 1w",
        "-F 1u 1v 1w", "I 1d 2"};
    private static final String[] TRIPLES = {
        "x,y,z", "-x,-y,-z", "-x,y+1/2,-z+1/2;-x,-y,-z", "y,z,x", "-y,x-y,z+1/3", "x-y,x,z+5/6",
        "x+1/24,y,z", "x+1/24,y,z;x,y+1/24,z", "x+1/24,y,z;-x,-y,-z;x,y+1/8,z", "x,y+x,z", "x,y,z+x+y+1",
        "1/2-x,1/2+y,-z;z,x,y", "-y,x,z+1/4;y,x,-z;z,x,y", "x+1/3,y+2/3,z+2/3;-y,x-y,z;-x,-y,-z",
        "-z,-x-y,y;x,z,y", "x+y+z,-y,-z", "x+y,-y,z-y;-x,-y,-z", "x+1/6,y,z;x,y+1/6,z;x,y,z+1/6",
        "x+1/6,y,z;x,y+1/6,z;x,y,z+1/4;-x,-y,z", "x+1/8,y,z;x,y+1/8,z;x,y,z+1/3"};
    private static final String BYTES = " -+,;/xyz0123456789PABCIFR'\"*abcnuvwd()";
    private static final int[] ODD = {Integer.MIN_VALUE, Integer.MAX_VALUE, -1, 0, 1, 2, 5, 6, 7, 24, 48, 192, 1000,
        1001, -1000, -1001, 10000, 10001, -10000, -10001};

    private final Random random;
    private final SymmetryHouse house = new SymmetryHouse();
    private final Naive naive = new Naive();
    private final int run;

    private AgainstNaiveTest(int run) {
        this.run = run;
        this.random = new Random(run);
    }

    public static void main(String[] args) {
        int runs = args.length > 0 ? Integer.parseInt(args[0]) : 150;
        int from = args.length > 1 ? Integer.parseInt(args[1]) : 0;
        for (int run = from; run < from + runs; run++) {
            AgainstNaiveTest test = new AgainstNaiveTest(run);
            for (int i = 0; i < 80; i++) {
                test.step();
            }
        }
        Check.end();
    }

    private void due(String call, long got, long want) {
        Check.due("run " + run + ": " + call, got, want);
    }

    private int pick(int low, int high) {
        if (random.nextInt(40) == 0) {
            return ODD[random.nextInt(ODD.length)];
        }
        return low + random.nextInt(high - low + 1);
    }

    private int slot() {
        return pick(0, random.nextInt(3) == 0 ? 5 : 2);
    }

    private int number(int slot) {
        return pick(0, Math.max(0, naive.group(slot, 0) - 1 + random.nextInt(2)));
    }

    private void step() {
        switch (random.nextInt(12)) {
            case 0: case 1: case 2: textStep(); break;
            case 3: groupStep(); break;
            case 4: operatorStep(); break;
            case 5: case 6: pairStep(); break;
            case 7: turnStep(); break;
            case 8: metricStep(); break;
            case 9: pointStep(); break;
            default: reflectionStep(); break;
        }
    }

    private String randomText(boolean symbol) {
        StringBuilder s = new StringBuilder();
        if (random.nextInt(3) > 0) {
            s.append(symbol ? SYMBOLS[random.nextInt(SYMBOLS.length)] : TRIPLES[random.nextInt(TRIPLES.length)]);
        } else if (symbol) {
            s.append(random.nextBoolean() ? "-" : "").append("PABCIFR".charAt(random.nextInt(7)));
            for (int i = random.nextInt(6); i > 0; i--) {
                s.append(random.nextBoolean() ? " -" : " ").append("12346".charAt(random.nextInt(5)));
                s.append(random.nextInt(3) == 0 ? "xyz'\"*".charAt(random.nextInt(6)) : "");
                for (int k = random.nextInt(3); k > 0; k--) {
                    s.append("abcnuvwd12345".charAt(random.nextInt(13)));
                }
            }
            if (random.nextInt(3) == 0) {
                s.append(" (").append(random.nextInt(25) - 12).append(" ").append(random.nextInt(25) - 12);
                s.append("  ").append(random.nextInt(25) - 12).append(")");
            }
        } else {
            int count = random.nextInt(4) == 0 ? 11 + random.nextInt(3) : 0;
            String[] whole = {"x,y,z", " - x, - y, - z", "y,x,z+1/2", "-x,y,1/2+z"};
            for (int i = 0; i < count; i++) {
                s.append(whole[random.nextInt(whole.length)]).append(";");
            }
            for (int i = random.nextInt(3); i >= 0; i--) {
                s.append(sum()).append(",").append(sum()).append(",").append(sum()).append(i > 0 ? ";" : "");
            }
        }
        return s.toString();
    }

    private String sum() {
        String[] terms = {"x", "y", "z", "-x", "-y", "-z", "x-y", "y-x", " + z", "x+y", "- z +1/ 2", "y+2/3", "1/4+x"};
        return terms[random.nextInt(terms.length)];
    }

    private String mutated(String text) {
        StringBuilder s = new StringBuilder(text);
        for (int i = random.nextInt(3); i >= 0; i--) {
            int at = random.nextInt(s.length() + 1);
            char c = random.nextInt(20) == 0 ? (char) random.nextInt(256) : BYTES.charAt(random.nextInt(BYTES.length()));
            int kind = random.nextInt(3);
            if (kind == 0 || at == s.length()) {
                s.insert(at, c);
            } else if (kind == 1) {
                s.setCharAt(at, c);
            } else {
                s.deleteCharAt(at);
            }
        }
        return s.toString();
    }

    private void textStep() {
        boolean symbol = random.nextBoolean();
        String text = randomText(symbol);
        if (random.nextInt(3) == 0) {
            text = mutated(text);
        }
        if (random.nextInt(30) == 0) {
            symbol = !symbol;
        }
        int[] words = new int[(text.length() + 19) / 20 * 5];
        for (int i = 0; i < words.length * 4; i++) {
            words[i / 4] = words[i / 4] << 8 | (i < text.length() ? text.charAt(i) : ' ');
        }
        for (int i = 0; i < words.length; i += 5) {
            due("feed", house.feed(words[i], words[i + 1], words[i + 2], words[i + 3], words[i + 4]),
                naive.feed(words[i], words[i + 1], words[i + 2], words[i + 3], words[i + 4]));
        }
        int slot = slot();
        int n = random.nextInt(20) == 0 ? pick(-1, 400) : text.length();
        String call = "read(" + slot + ", " + n + ", " + symbol + ") of <" + text + ">";
        due(call, house.read(slot, n, symbol), naive.read(slot, n, symbol));
        for (int k = -1; k < 5; k++) {
            due(call + " fault(" + k + ")", house.fault(k), naive.fault(k));
        }
        int group = slot();
        int i = number(group);
        due("text(" + group + ", " + i + ")", house.text(group, i), naive.text(group, i));
        for (int k = -1; k < 70; k++) {
            int got = -7;
            try {
                got = house.out(k);
            } catch (NoSuchElementException e) {
                got = -7;
            }
            due("out(" + k + ")", got, naive.out(k));
        }
    }

    private void groupStep() {
        int slot = slot();
        for (int what = -1; what < 13; what++) {
            due("group(" + slot + ", " + what + ")", house.group(slot, what), naive.group(slot, what));
        }
    }

    private void operatorStep() {
        int slot = slot();
        for (int times = 0; times < 8; times++) {
            int i = number(slot);
            for (int k = -1; k < 25; k++) {
                due("operator(" + slot + ", " + i + ", " + k + ")", house.operator(slot, i, k), naive.operator(slot, i, k));
            }
            int j = number(slot);
            due("product(" + slot + ", " + i + ", " + j + ")", house.product(slot, i, j), naive.product(slot, i, j));
            int other = slot();
            j = number(other);
            due("find(" + slot + ", " + other + ", " + j + ")", house.find(slot, other, j), naive.find(slot, other, j));
        }
    }

    private void pairStep() {
        int one = slot();
        int two = slot();
        int to = slot();
        int kind = random.nextInt(4);
        if (kind == 0) {
            due("common(" + one + ", " + two + ", " + to + ")", house.common(one, two, to), naive.common(one, two, to));
        } else if (kind == 1) {
            int[] types = {-6, -4, -3, -2, -1, 1, 2, 3, 4, 6};
            int t = random.nextInt(6) == 0 ? pick(-7, 7) : types[random.nextInt(10)];
            int which = random.nextInt(10) == 0 ? pick(-1, 3) : random.nextInt(3);
            due("part(" + one + ", " + which + ", " + t + ", " + to + ")", house.part(one, which, t, to),
                naive.part(one, which, t, to));
        }
        due("compare(" + one + ", " + two + ")", house.compare(one, two), naive.compare(one, two));
        due("cosets(" + one + ", " + two + ")", house.cosets(one, two), naive.cosets(one, two));
        due("normal(" + one + ", " + two + ")", house.normal(one, two), naive.normal(one, two));
        for (int times = 0; times < 3; times++) {
            int i = number(one);
            due("coset(" + one + ", " + two + ", " + i + ")", house.coset(one, two, i), naive.coset(one, two, i));
        }
    }

    private void turnStep() {
        int[][] bases = {{1, 1, 0, 0, 1, 0, 0, 0, 1}, {0, 1, 0, 0, 0, 1, 1, 0, 0}, {9, 8, 0, 1, 1, 0, 0, 0, 1},
            {1, 9, 9, 0, 1, 9, 0, 0, 1}, {-1, 0, 0, 0, -1, 0, 0, 0, -1}, {1, 0, 0, -2, 1, 0, 3, -1, -1},
            {2, 1, 1, 1, 1, 1, 1, 1, 2}, {1, 1, 0, -1, 1, 0, 0, 0, 1}, {1, 0, 0, 0, 1, 0, 0, 0, 1}};
        int[] b = bases[random.nextInt(bases.length)];
        for (int k = 0; k < 12; k++) {
            int v = k < 9 ? b[k] : random.nextInt(24);
            due("basis(" + k + ", " + v + ")", house.basis(k, v), naive.basis(k, v));
        }
        int k = pick(-1, 12);
        int v = pick(-12, 26);
        due("basis(" + k + ", " + v + ")", house.basis(k, v), naive.basis(k, v));
        int slot = slot();
        int to = slot();
        boolean back = random.nextBoolean();
        due("turn(" + slot + ", " + to + ", " + back + ")", house.turn(slot, to, back), naive.turn(slot, to, back));
    }

    private void due(String call, boolean got, boolean want) {
        Check.due("run " + run + ": " + call, got, want);
    }

    private void metricStep() {
        int slot = slot();
        int a = pick(-1000, 1000);
        int h = random.nextInt(2) * a;
        int[][] forms = {{a, a, a, 0, 0, 0}, {2 * a / 2, a, 7, 0, 0, 0}, {a / 2 * 2, a / 2 * 2, 9, 0, 0, -a / 2},
            {a, a, a, h, h, h}, {1, 2, 3, 4, 5, 6}, {pick(-1000, 1000), pick(-1000, 1000), 1, 2, 3, a}};
        int[] n = forms[random.nextInt(forms.length)];
        due("metric(" + slot + ")", house.metric(slot, n[0], n[1], n[2], n[3], n[4], n[5]), naive.metric(slot, n));
        for (int k = -1; k < 7; k++) {
            due("mean(" + k + ")", house.mean(k), naive.mean(k));
        }
    }

    private void pointStep() {
        int slot = slot();
        int d = new int[] {1, 2, 3, 4, 8, 12, 24, 48, 7, pick(1, 1000)}[random.nextInt(10)];
        boolean small = random.nextBoolean();
        int a = pick(small ? -12 : -10000, small ? 12 : 10000);
        int b = random.nextInt(3) == 0 ? a : pick(small ? 0 : -10000, small ? 4 : 10000);
        int c = random.nextInt(3) == 0 ? -a : pick(small ? 0 : -10000, small ? 4 : 10000);
        String call = "orbit(" + slot + ", " + a + ", " + b + ", " + c + ", " + d + ")";
        due(call, house.orbit(slot, a, b, c, d), naive.orbit(slot, a, b, c, d));
        for (int what = -1; what < 6; what++) {
            due(call + " site(" + what + ")", house.site(what), naive.site(what));
        }
        for (int i = -1; i < 50; i++) {
            due(call + " stays(" + i + ")", house.stays(i), naive.stays(i));
        }
        for (int i = -1; i < 193; i++) {
            for (int k = -1; k < 4; k++) {
                due(call + " place(" + i + ", " + k + ")", house.place(i, k), naive.place(i, k));
            }
        }
    }

    private void reflectionStep() {
        int slot = slot();
        for (int times = 0; times < 8; times++) {
            int limit = random.nextInt(3) == 0 ? 1000 : 3;
            int h = pick(-limit, limit);
            int k = random.nextInt(3) == 0 ? h : pick(-limit, limit);
            int l = random.nextInt(3) == 0 ? 0 : pick(-limit, limit);
            for (int what = -1; what < 7; what++) {
                due("reflection(" + slot + ", " + h + ", " + k + ", " + l + ", " + what + ")",
                    house.reflection(slot, h, k, l, what), naive.reflection(slot, h, k, l, what));
            }
        }
        int n = random.nextInt(50) == 0 ? pick(-1, 7) : random.nextInt(3);
        due("absent(" + slot + ", " + n + ")", house.absent(slot, n), naive.absent(slot, n));
    }
}
