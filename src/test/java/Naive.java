import java.util.ArrayList;
import java.util.Arrays;
import java.util.HashSet;
import java.util.List;
import java.util.Set;
import java.util.TreeMap;
import java.util.TreeSet;
import java.util.regex.Matcher;
import java.util.regex.Pattern;

/** The document once more, by its definitions alone and without a thought of speed, to set beside the class. */
final class Naive {
    static final int NONE = -1;
    private static final int LIMIT = 192;
    private final StringBuilder tape = new StringBuilder();
    private String out = "";
    @SuppressWarnings({"unchecked", "rawtypes"})
    private final List<List<Integer>>[] slots = new List[6];
    private int fault = NONE;
    private int faultPlace = NONE;
    private int faultGenerators = NONE;
    private int faultMatrices = NONE;
    private final int[] basis = {1, 0, 0, 0, 1, 0, 0, 0, 1, 0, 0, 0};
    private long[] means = new long[6];
    private List<List<Integer>> places = List.of();
    private List<Integer> stabiliser = List.of();
    private int[] site;

    // ---- operators as lists of twelve numbers

    static List<Integer> after(List<Integer> a, List<Integer> b) {
        List<Integer> c = new ArrayList<>();
        for (int r = 0; r < 3; r++) {
            for (int k = 0; k < 3; k++) {
                int sum = 0;
                for (int j = 0; j < 3; j++) {
                    sum += a.get(r * 3 + j) * b.get(j * 3 + k);
                }
                c.add(sum);
            }
        }
        for (int r = 0; r < 3; r++) {
            int sum = a.get(9 + r);
            for (int j = 0; j < 3; j++) {
                sum += a.get(r * 3 + j) * b.get(9 + j);
            }
            c.add(Math.floorMod(sum, 24));
        }
        return c;
    }

    static List<Integer> make(int[] matrix, int x, int y, int z) {
        List<Integer> c = new ArrayList<>();
        for (int v : matrix) {
            c.add(v);
        }
        c.add(Math.floorMod(x, 24));
        c.add(Math.floorMod(y, 24));
        c.add(Math.floorMod(z, 24));
        return c;
    }

    static final List<Integer> UNIT = List.of(1, 0, 0, 0, 1, 0, 0, 0, 1, 0, 0, 0);

    static List<Integer> matrix(List<Integer> o) {
        return o.subList(0, 9);
    }

    static int det(List<Integer> m) {
        return m.get(0) * m.get(4) * m.get(8) + m.get(1) * m.get(5) * m.get(6) + m.get(2) * m.get(3) * m.get(7)
            - m.get(2) * m.get(4) * m.get(6) - m.get(1) * m.get(3) * m.get(8) - m.get(0) * m.get(5) * m.get(7);
    }

    static int trace(List<Integer> m) {
        return m.get(0) + m.get(4) + m.get(8);
    }

    static int type(List<Integer> m) {
        int d = det(m);
        int t = d * trace(m);
        int size = t == 3 ? 1 : t == -1 ? 2 : t == 0 ? 3 : t == 1 ? 4 : 6;
        return d * size;
    }

    static int compareLists(List<Integer> a, List<Integer> b) {
        for (int k = 0; k < a.size(); k++) {
            if (!a.get(k).equals(b.get(k))) {
                return Integer.compare(a.get(k), b.get(k));
            }
        }
        return 0;
    }

    static Set<List<Integer>> matrices(List<List<Integer>> g) {
        Set<List<Integer>> set = new TreeSet<>(Naive::compareLists);
        for (List<Integer> o : g) {
            set.add(matrix(o));
        }
        return set;
    }

    // ---- texts

    int feed(int a, int b, int c, int d, int e) {
        if (tape.length() > 380) {
            return NONE;
        }
        for (int v : new int[] {a, b, c, d, e}) {
            tape.append((char) (v >> 24 & 255)).append((char) (v >> 16 & 255));
            tape.append((char) (v >> 8 & 255)).append((char) (v & 255));
        }
        return tape.length();
    }

    int read(int slot, int n, boolean symbol) {
        if (n < 0 || n > tape.length() || slot < 0 || slot > 5) {
            return NONE;
        }
        String s = tape.substring(0, n);
        tape.setLength(0);
        fault = 0;
        faultPlace = NONE;
        List<List<Integer>> made = symbol ? symbolOf(s) : triplesOf(s);
        faultGenerators = fault == 0 ? made.size() : 0;
        faultMatrices = 0;
        if (fault != 0) {
            return -2;
        }
        List<List<Integer>> bare = new ArrayList<>();
        for (List<Integer> g : made) {
            List<Integer> b = new ArrayList<>(g);
            b.set(9, 0);
            b.set(10, 0);
            b.set(11, 0);
            bare.add(b);
        }
        Set<List<Integer>> small = closure(bare, 48);
        faultMatrices = small == null ? 49 : small.size();
        if (small == null) {
            return -3;
        }
        Set<List<Integer>> all = closure(made, LIMIT);
        if (all == null) {
            return -4;
        }
        slots[slot] = sorted(all);
        return all.size();
    }

    static List<List<Integer>> sorted(Set<List<Integer>> set) {
        List<List<Integer>> list = new ArrayList<>(set);
        list.sort(Naive::compareLists);
        return list;
    }

    private static Set<List<Integer>> closure(List<List<Integer>> generators, int limit) {
        Set<List<Integer>> set = new HashSet<>();
        List<List<Integer>> open = new ArrayList<>();
        set.add(UNIT);
        open.add(UNIT);
        for (int i = 0; i < open.size(); i++) {
            for (List<Integer> g : generators) {
                List<Integer> p = after(g, open.get(i));
                if (set.add(p)) {
                    open.add(p);
                    if (set.size() > limit) {
                        return null;
                    }
                }
            }
        }
        return set;
    }

    private List<List<Integer>> failed(int kind, int place) {
        fault = kind;
        faultPlace = place;
        return List.of();
    }

    private static final String SUM = "s?(?:l|n(?:/n)?)(?:s(?:l|n(?:/n)?))*";
    private static final Pattern TRIPLE = Pattern.compile(SUM + "," + SUM + "," + SUM);

    private static boolean viable(Pattern p, String s) {
        Matcher m = p.matcher(s);
        return m.matches() || m.hitEnd();
    }

    private List<List<Integer>> triplesOf(String s) {
        Matcher lex = Pattern.compile(" *([0-9]+|.)", Pattern.DOTALL).matcher(s.replaceAll(" +$", ""));
        List<String> tokens = new ArrayList<>();
        List<Integer> at = new ArrayList<>();
        while (lex.find()) {
            tokens.add(lex.group(1));
            at.add(lex.start(1));
        }
        tokens.add("END");
        at.add(s.length());
        List<List<Integer>> made = new ArrayList<>();
        int i = 0;
        while (true) {
            int begin = i;
            String kinds = "";
            while (i < tokens.size() && viable(TRIPLE, kinds + kindOf(tokens.get(i)))) {
                if (made.size() == 12) {
                    return failed(5, at.get(begin));
                }
                kinds += kindOf(tokens.get(i));
                int twice = semantic(tokens, kinds, begin, i);
                if (twice != 0) {
                    return failed(twice, at.get(i));
                }
                i++;
            }
            if (!TRIPLE.matcher(kinds).matches()) {
                return failed(1, at.get(i));
            }
            List<Integer> o = valueOf(String.join("", tokens.subList(begin, i)));
            if (Math.abs(det(o)) != 1) {
                return failed(4, at.get(begin));
            }
            made.add(o);
            if (tokens.get(i).equals("END")) {
                return made;
            }
            if (!tokens.get(i).equals(";")) {
                return failed(1, at.get(i));
            }
            i++;
        }
    }

    private static String kindOf(String token) {
        if (token.matches("[0-9]+")) {
            return token.length() <= 2 ? "n" : "!";
        }
        if (token.matches("[xyz]")) {
            return "l";
        }
        return token.matches("[+-]") ? "s" : token.matches("[,/;]") ? token : "!";
    }

    private static int semantic(List<String> tokens, String kinds, int begin, int i) {
        int from = begin + kinds.lastIndexOf(',') + 1;
        boolean behind = i > begin && tokens.get(i - 1).equals("/");
        String token = tokens.get(i);
        if (behind) {
            int q = Integer.parseInt(token);
            return List.of(1, 2, 3, 4, 6, 8, 12, 24).contains(q) ? 0 : 3;
        }
        for (int j = from; j < i; j++) {
            boolean digits = token.matches("[0-9]+") && tokens.get(j).matches("[0-9]+");
            boolean same = token.matches("[xyz]") && tokens.get(j).equals(token);
            if (digits || same) {
                return 2;
            }
        }
        return 0;
    }

    private static List<Integer> valueOf(String s) {
        int[] m = new int[9];
        int[] t = new int[3];
        String[] sums = s.split(",");
        for (int r = 0; r < 3; r++) {
            Matcher term = Pattern.compile("([+-]?)(?:([xyz])|([0-9]+)(?:/([0-9]+))?)").matcher(sums[r]);
            while (term.find()) {
                int sign = term.group(1).equals("-") ? -1 : 1;
                if (term.group(2) != null) {
                    m[r * 3 + "xyz".indexOf(term.group(2))] += sign;
                } else {
                    int q = term.group(4) == null ? 1 : Integer.parseInt(term.group(4));
                    t[r] += sign * Integer.parseInt(term.group(3)) * 24 / q;
                }
            }
        }
        return make(m, t[0], t[1], t[2]);
    }

    private static final String TWELFTHS = "-?(?:0?[0-9]|1[01])";
    private static final Pattern SYMBOL = Pattern.compile(" *-?[PABCIFR]"
        + "(?: +-?[12346][xyz'\"*]?[abcnuvwd]*[1-5]?[abcnuvwd]*)*"
        + "(?: +\\(" + TWELFTHS + " +" + TWELFTHS + " +" + TWELFTHS + "\\))? *");

    private List<List<Integer>> symbolOf(String s) {
        for (int i = 0; i < s.length(); i++) {
            String prefix = s.substring(0, i + 1);
            if (!viable(SYMBOL, prefix)) {
                return failed(1, i);
            }
            int kind = semanticOfSymbol(prefix, i);
            if (kind != 0) {
                return failed(kind, i);
            }
        }
        if (!SYMBOL.matcher(s).matches()) {
            return failed(1, s.length());
        }
        return generatorsOf(s.trim().split(" +\\(")[0].split(" +"), s);
    }

    private static int semanticOfSymbol(String prefix, int i) {
        char c = prefix.charAt(i);
        if (c == ' ' || prefix.contains("(")) {
            return 0;
        }
        String[] words = prefix.trim().split(" +");
        if (words.length < 2) {
            return 0;
        }
        String word = words[words.length - 1];
        if (words.length > 5 && word.length() == 1) {
            return 8;
        }
        String rest = word.replaceFirst("^-", "");
        if (rest.length() < 2) {
            return 0;
        }
        if ((c == '\'' || c == '"') && rest.charAt(0) != '2' || c == '*' && rest.charAt(0) != '3') {
            return 6;
        }
        if (c >= '1' && c <= '5') {
            char axis = axesOf(words)[words.length - 2];
            if (c >= rest.charAt(0) || "xyz".indexOf(axis) < 0) {
                return 7;
            }
        }
        return 0;
    }

    private static char[] axesOf(String[] words) {
        char[] axes = new char[words.length - 1];
        for (int w = 1; w < words.length; w++) {
            String rest = words[w].replaceFirst("^-", "");
            if (rest.length() > 1 && "xyz'\"*".indexOf(rest.charAt(1)) >= 0) {
                axes[w - 1] = rest.charAt(1);
            } else if (w == 2 && rest.startsWith("2")) {
                char ahead = words[1].replaceFirst("^-", "").charAt(0);
                axes[w - 1] = ahead == '2' || ahead == '4' ? 'x' : ahead == '3' || ahead == '6' ? '\'' : 'z';
            } else {
                axes[w - 1] = w == 3 && rest.startsWith("3") ? '*' : 'z';
            }
        }
        return axes;
    }

    /** Written out, not by putting rows and columns: number, axis and axis ahead of each. */
    private static final String[] TABLE = {
        "2x 1 0 0 0 -1 0 0 0 -1", "2y -1 0 0 0 1 0 0 0 -1", "2z -1 0 0 0 -1 0 0 0 1",
        "3x 1 0 0 0 0 -1 0 1 -1", "3y -1 0 1 0 1 0 -1 0 0", "3z 0 -1 0 1 -1 0 0 0 1",
        "4x 1 0 0 0 0 -1 0 1 0", "4y 0 0 1 0 1 0 -1 0 0", "4z 0 -1 0 1 0 0 0 0 1",
        "6x 1 0 0 0 1 -1 0 1 0", "6y 0 0 1 0 1 0 -1 0 1", "6z 1 -1 0 1 0 0 0 0 1",
        "2'x -1 0 0 0 0 -1 0 -1 0", "2'y 0 0 -1 0 -1 0 -1 0 0", "2'z 0 -1 0 -1 0 0 0 0 -1",
        "2\"x -1 0 0 0 0 1 0 1 0", "2\"y 0 0 1 0 -1 0 1 0 0", "2\"z 0 1 0 1 0 0 0 0 -1",
        "3* 0 0 1 1 0 0 0 1 0",
        "1x 1 0 0 0 1 0 0 0 1", "1y 1 0 0 0 1 0 0 0 1", "1z 1 0 0 0 1 0 0 0 1"};

    private static int[] rotation(String name) {
        for (String row : TABLE) {
            if (row.startsWith(name + " ")) {
                int[] m = new int[9];
                String[] numbers = row.split(" ");
                for (int k = 0; k < 9; k++) {
                    m[k] = Integer.parseInt(numbers[k + 1]);
                }
                return m;
            }
        }
        throw new IllegalStateException(name);
    }

    private static List<List<Integer>> generatorsOf(String[] words, String s) {
        List<List<Integer>> made = new ArrayList<>();
        int[] unit = {1, 0, 0, 0, 1, 0, 0, 0, 1};
        TreeMap<Character, int[][]> lattices = new TreeMap<>();
        lattices.put('P', new int[][] {});
        lattices.put('A', new int[][] {{0, 12, 12}});
        lattices.put('B', new int[][] {{12, 0, 12}});
        lattices.put('C', new int[][] {{12, 12, 0}});
        lattices.put('I', new int[][] {{12, 12, 12}});
        lattices.put('F', new int[][] {{0, 12, 12}, {12, 0, 12}, {12, 12, 0}});
        lattices.put('R', new int[][] {{16, 8, 8}, {8, 16, 16}});
        for (int[] v : lattices.get(words[0].charAt(words[0].length() - 1))) {
            made.add(make(unit, v[0], v[1], v[2]));
        }
        if (words[0].startsWith("-")) {
            made.add(make(new int[] {-1, 0, 0, 0, -1, 0, 0, 0, -1}, 0, 0, 0));
        }
        char[] axes = axesOf(words);
        for (int w = 1; w < words.length; w++) {
            boolean minus = words[w].startsWith("-");
            String rest = minus ? words[w].substring(1) : words[w];
            char axis = axes[w - 1];
            String name = rest.substring(0, 1) + axis;
            if (axis == '\'' || axis == '"') {
                char ahead = w > 1 ? axes[w - 2] : 'z';
                name += "xyz".indexOf(ahead) >= 0 ? ahead : 'z';
            }
            int[] m = rotation(name);
            int[] t = new int[3];
            for (char c : rest.substring(1).toCharArray()) {
                int letter = "abcuvw".indexOf(c);
                if (letter >= 0) {
                    t[letter % 3] += letter < 3 ? 12 : 6;
                } else if (c == 'n' || c == 'd') {
                    for (int k = 0; k < 3; k++) {
                        t[k] += c == 'n' ? 12 : 6;
                    }
                } else if (c >= '1' && c <= '5') {
                    t["xyz".indexOf(axis)] += (c - '0') * (24 / (rest.charAt(0) - '0'));
                }
            }
            for (int k = 0; k < 9 && minus; k++) {
                m[k] = -m[k];
            }
            made.add(make(m, t[0], t[1], t[2]));
        }
        if (s.indexOf('(') >= 0) {
            String[] told = s.substring(s.indexOf('(') + 1, s.indexOf(')')).split(" +");
            List<Integer> there = make(unit, 2 * Integer.parseInt(told[0]), 2 * Integer.parseInt(told[1]),
                2 * Integer.parseInt(told[2]));
            List<Integer> back = make(unit, -there.get(9), -there.get(10), -there.get(11));
            made.replaceAll(o -> after(there, after(o, back)));
        }
        return made;
    }

    int fault(int what) {
        switch (what) {
            case 0: return fault;
            case 1: return fault == NONE ? NONE : faultPlace;
            case 2: return faultGenerators;
            case 3: return faultMatrices;
            default: return NONE;
        }
    }

    int text(int slot, int i) {
        if (lacks(slot, i)) {
            return NONE;
        }
        List<Integer> o = slots[slot].get(i);
        List<String> rows = new ArrayList<>();
        for (int r = 0; r < 3; r++) {
            StringBuilder row = new StringBuilder();
            for (int k = 0; k < 3; k++) {
                int v = o.get(r * 3 + k);
                if (v != 0) {
                    row.append(v < 0 ? "-" : row.length() > 0 ? "+" : "");
                    row.append(Math.abs(v) == 1 ? "" : String.valueOf(Math.abs(v))).append("xyz".charAt(k));
                }
            }
            int t = o.get(9 + r);
            for (int q : new int[] {2, 3, 4, 6, 8, 12, 24}) {
                if (t != 0 && t * q % 24 == 0) {
                    row.append("+").append(t * q / 24).append("/").append(q);
                    break;
                }
            }
            rows.add(row.toString());
        }
        out = String.join(",", rows);
        return out.length();
    }

    int out(int i) {
        return i < 0 || i >= out.length() ? -7 : out.charAt(i);
    }

    // ---- groups and their operators

    private boolean lacks(int slot) {
        return slot < 0 || slot > 5 || slots[slot] == null;
    }

    private boolean lacks(int slot, int i) {
        return lacks(slot) || i < 0 || i >= slots[slot].size();
    }

    private static final String[] CLASSES = ("0000010000 0000110000 0000011000 0001010000 0001111000 0000013000 "
        + "0002011000 0003113000 0000011020 0200011000 0201111020 0000015020 0004011020 0202013000 0205115020 "
        + "0000010200 0020110200 0000013200 0003010200 0023113200 0000011202 2001010200 2021111202 0000017202 "
        + "0006011202 2004013200 2027117202 0000013800 0083113800 0000019860 0606013800 0689119860").split(" ");

    static int classOf(Iterable<List<Integer>> matrices) {
        int[] counts = new int[10];
        for (List<Integer> m : matrices) {
            counts[List.of(-6, -4, -3, -2, -1, 1, 2, 3, 4, 6).indexOf(type(m))]++;
        }
        StringBuilder key = new StringBuilder();
        for (int c : counts) {
            key.append(c);
        }
        return Arrays.asList(CLASSES).indexOf(key.toString()) + 1;
    }

    /** By elimination over fractions p / q kept as doubles of small numbers: the rank of all R - 1 below three. */
    private static boolean leavesVector(Set<List<Integer>> matrices) {
        List<double[]> rows = new ArrayList<>();
        for (List<Integer> m : matrices) {
            for (int r = 0; r < 3; r++) {
                double[] row = new double[3];
                for (int k = 0; k < 3; k++) {
                    row[k] = m.get(r * 3 + k) - (r == k ? 1 : 0);
                }
                rows.add(row);
            }
        }
        int rank = 0;
        for (int k = 0; k < 3; k++) {
            double[] pivot = null;
            for (double[] row : rows) {
                if (Math.abs(row[k]) > 1e-6 && (pivot == null || Math.abs(row[k]) > Math.abs(pivot[k]))) {
                    pivot = row;
                }
            }
            if (pivot != null) {
                rank++;
                rows.remove(pivot);
                for (double[] row : rows) {
                    double f = row[k] / pivot[k];
                    for (int j = 0; j < 3; j++) {
                        row[j] -= f * pivot[j];
                    }
                }
            }
        }
        return rank < 3;
    }

    int group(int slot, int what) {
        if (lacks(slot)) {
            return NONE;
        }
        List<List<Integer>> g = slots[slot];
        Set<List<Integer>> ms = matrices(g);
        int c = classOf(ms);
        int count = 0;
        switch (what) {
            case 0: return g.size();
            case 1: return ms.size();
            case 2:
                for (List<Integer> o : g) {
                    count += matrix(o).equals(matrix(UNIT)) ? 1 : 0;
                }
                return count;
            case 3: return c;
            case 4: return c <= 2 ? 1 : c <= 5 ? 2 : c <= 8 ? 3 : c <= 15 ? 4 : c <= 20 ? 5 : c <= 27 ? 6 : 7;
            case 5: return ms.contains(List.of(-1, 0, 0, 0, -1, 0, 0, 0, -1)) ? 1 : 0;
            case 6: return leavesVector(ms) ? 1 : 0;
            case 7: return group(slot, 8) == g.size() ? 1 : 0;
            case 8:
                for (int i = 0; i < g.size(); i++) {
                    count += operator(slot, i, 23) == g.size() ? 1 : 0;
                }
                return count;
            case 9:
                List<List<Integer>> inverses = new ArrayList<>();
                for (List<Integer> h : g) {
                    inverses.add(inverse(g, h));
                }
                Set<List<Integer>> left = new HashSet<>(g);
                for (List<Integer> o : g) {
                    if (left.contains(o)) {
                        count++;
                        for (int i = 0; i < g.size(); i++) {
                            left.remove(after(after(g.get(i), o), inverses.get(i)));
                        }
                    }
                }
                return count;
            case 10:
                for (List<Integer> o : g) {
                    count += det(o) < 0 ? 1 : 0;
                }
                return count == 0 ? 1 : 0;
            case 11:
                for (List<Integer> o : g) {
                    count += pitch(o).equals(List.of(0, 0, 0)) ? 1 : 0;
                }
                return count;
            default: return NONE;
        }
    }

    private static List<Integer> inverse(List<List<Integer>> g, List<Integer> o) {
        for (List<Integer> h : g) {
            if (after(h, o).equals(UNIT)) {
                return h;
            }
        }
        throw new IllegalStateException();
    }

    static int turns(List<Integer> o) {
        List<Integer> p = o;
        int k = 1;
        while (!matrix(p).equals(matrix(UNIT))) {
            p = after(p, o);
            k++;
        }
        return k;
    }

    static int order(List<Integer> o) {
        List<Integer> p = o;
        int k = 1;
        while (!p.equals(UNIT)) {
            p = after(p, o);
            k++;
        }
        return k;
    }

    static List<Integer> pitch(List<Integer> o) {
        int[] sum = new int[3];
        List<Integer> power = UNIT;
        for (int k = turns(o); k > 0; k--) {
            for (int r = 0; r < 3; r++) {
                for (int j = 0; j < 3; j++) {
                    sum[r] += power.get(r * 3 + j) * o.get(9 + j);
                }
            }
            power = after(power, o);
        }
        return List.of(sum[0], sum[1], sum[2]);
    }

    /** By trying: the sum of all powers of the proper matrix sends every vector to the axis. */
    static int[] axis(List<Integer> o) {
        int d = det(o);
        if (Math.abs(type(o)) == 1) {
            return new int[3];
        }
        for (int e = 0; e < 3; e++) {
            int[] v = new int[3];
            v[e] = 1;
            int[] sum = new int[3];
            for (int k = 0; k < 12; k++) {
                int[] w = new int[3];
                for (int r = 0; r < 3; r++) {
                    sum[r] += v[r];
                    for (int j = 0; j < 3; j++) {
                        w[r] += d * o.get(r * 3 + j) * v[j];
                    }
                }
                v = w;
            }
            int first = sum[0] != 0 ? sum[0] : sum[1] != 0 ? sum[1] : sum[2];
            if (first != 0) {
                int q = 1;
                for (int k = 1; k <= Math.abs(first); k++) {
                    q = sum[0] % k == 0 && sum[1] % k == 0 && sum[2] % k == 0 ? k : q;
                }
                q = first < 0 ? -q : q;
                return new int[] {sum[0] / q, sum[1] / q, sum[2] / q};
            }
        }
        throw new IllegalStateException();
    }

    static int sense(List<Integer> o) {
        if (Math.abs(type(o)) < 3) {
            return 0;
        }
        int[] u = axis(o);
        int d = det(o);
        for (int e = 0; e < 3; e++) {
            List<Integer> m = new ArrayList<>();
            for (int r = 0; r < 3; r++) {
                m.add(u[r]);
                m.add(r == e ? 1 : 0);
                m.add(d * o.get(r * 3 + e));
            }
            if (det(m) != 0) {
                return det(m) > 0 ? 1 : -1;
            }
        }
        throw new IllegalStateException();
    }

    int operator(int slot, int i, int k) {
        if (lacks(slot, i) || k < 0 || k > 23) {
            return -100000;
        }
        List<List<Integer>> g = slots[slot];
        List<Integer> o = g.get(i);
        if (k < 12) {
            return o.get(k);
        }
        switch (k) {
            case 12: return type(o);
            case 13: return turns(o);
            case 14: return order(o);
            case 15: case 16: case 17: return axis(o)[k - 15];
            case 18: return sense(o);
            case 19: case 20: case 21: return pitch(o).get(k - 19);
            case 22: return g.indexOf(inverse(g, o));
            default:
                int count = 0;
                for (List<Integer> h : g) {
                    count += after(h, o).equals(after(o, h)) ? 1 : 0;
                }
                return count;
        }
    }

    int product(int slot, int i, int j) {
        return lacks(slot, i) || lacks(slot, j) ? NONE : slots[slot].indexOf(after(slots[slot].get(i), slots[slot].get(j)));
    }

    int find(int slot, int other, int i) {
        return lacks(slot) || lacks(other, i) ? NONE : slots[slot].indexOf(slots[other].get(i));
    }

    // ---- groups beside one another

    int compare(int one, int two) {
        if (lacks(one) || lacks(two)) {
            return NONE;
        }
        boolean a = new HashSet<>(slots[one]).containsAll(slots[two]);
        boolean b = new HashSet<>(slots[two]).containsAll(slots[one]);
        return a && b ? 3 : a ? 1 : b ? 2 : 0;
    }

    int common(int one, int two, int slot) {
        if (lacks(one) || lacks(two) || slot < 0 || slot > 5) {
            return NONE;
        }
        Set<List<Integer>> set = new HashSet<>(slots[one]);
        set.retainAll(slots[two]);
        slots[slot] = sorted(set);
        return set.size();
    }

    private List<Set<List<Integer>>> sets(int one, int two) {
        List<Set<List<Integer>>> sets = new ArrayList<>();
        for (List<Integer> o : slots[one]) {
            Set<List<Integer>> set = new HashSet<>();
            for (List<Integer> h : slots[two]) {
                set.add(after(o, h));
            }
            if (!sets.contains(set)) {
                sets.add(set);
            }
        }
        return sets;
    }

    int cosets(int one, int two) {
        int c = compare(one, two);
        return c == NONE ? NONE : c % 2 == 0 ? -2 : sets(one, two).size();
    }

    int coset(int one, int two, int i) {
        int c = cosets(one, two);
        if (c < 0) {
            return c;
        }
        if (lacks(one, i)) {
            return NONE;
        }
        List<Set<List<Integer>>> sets = sets(one, two);
        for (int k = 0; k < sets.size(); k++) {
            if (sets.get(k).contains(slots[one].get(i))) {
                return k;
            }
        }
        return NONE;
    }

    int normal(int one, int two) {
        int c = cosets(one, two);
        if (c < 0) {
            return c;
        }
        for (List<Integer> o : slots[one]) {
            Set<List<Integer>> left = new HashSet<>();
            Set<List<Integer>> right = new HashSet<>();
            for (List<Integer> h : slots[two]) {
                left.add(after(o, h));
                right.add(after(h, o));
            }
            if (!left.equals(right)) {
                return 0;
            }
        }
        return 1;
    }

    int part(int slot, int which, int t, int to) {
        if (lacks(slot) || to < 0 || to > 5 || which < 0 || which > 2) {
            return NONE;
        }
        if (which == 2 && !List.of(-6, -4, -3, -2, -1, 1, 2, 3, 4, 6).contains(t)) {
            return NONE;
        }
        Set<List<Integer>> set = new HashSet<>();
        for (List<Integer> o : slots[slot]) {
            if (which == 0 ? det(o) == 1 : type(o) == 1 || which == 2 && type(o) == t) {
                set.add(o);
            }
        }
        for (List<Integer> a : set) {
            for (List<Integer> b : set) {
                if (!set.contains(after(a, b))) {
                    return 0;
                }
            }
        }
        slots[to] = sorted(set);
        return set.size();
    }

    // ---- bases

    boolean basis(int k, int v) {
        if (k < 0 || k > 11 || (k < 9 ? v < -9 || v > 9 : v < 0 || v > 23)) {
            return false;
        }
        basis[k] = v;
        return true;
    }

    int turn(int slot, int to, boolean back) {
        if (lacks(slot) || to < 0 || to > 5) {
            return NONE;
        }
        List<Integer> p = make(Arrays.copyOf(basis, 9), basis[9], basis[10], basis[11]);
        int d = det(p);
        if (d != 1 && d != -1) {
            return -2;
        }
        int[] q = new int[9];
        for (int r = 0; r < 3; r++) {
            for (int c = 0; c < 3; c++) {
                int a = (r + 1) % 3;
                int b = (r + 2) % 3;
                int e = (c + 1) % 3;
                int f = (c + 2) % 3;
                q[c * 3 + r] = d * (p.get(a * 3 + e) * p.get(b * 3 + f) - p.get(a * 3 + f) * p.get(b * 3 + e));
            }
        }
        List<Integer> inverse = after(make(q, 0, 0, 0), make(new int[] {1, 0, 0, 0, 1, 0, 0, 0, 1}, -basis[9],
            -basis[10], -basis[11]));
        Set<List<Integer>> set = new HashSet<>();
        for (List<Integer> o : slots[slot]) {
            List<Integer> n = back ? after(after(inverse, o), p) : after(after(p, o), inverse);
            for (int k = 0; k < 9; k++) {
                if (Math.abs(n.get(k)) > 999) {
                    return -3;
                }
            }
            set.add(n);
        }
        slots[to] = sorted(set);
        return set.size();
    }

    // ---- metric

    int metric(int slot, int... n) {
        if (lacks(slot)) {
            return NONE;
        }
        for (int v : n) {
            if (v < -1000 || v > 1000) {
                return NONE;
            }
        }
        long[][] g = {{n[0], n[5], n[4]}, {n[5], n[1], n[3]}, {n[4], n[3], n[2]}};
        means = new long[6];
        boolean left = true;
        for (List<Integer> m : matrices(slots[slot])) {
            long[][] h = new long[3][3];
            for (int i = 0; i < 3; i++) {
                for (int j = 0; j < 3; j++) {
                    for (int p = 0; p < 3; p++) {
                        for (int q = 0; q < 3; q++) {
                            h[i][j] += m.get(p * 3 + i) * g[p][q] * m.get(q * 3 + j);
                        }
                    }
                }
            }
            left &= Arrays.deepEquals(g, h);
            long[] six = {h[0][0], h[1][1], h[2][2], h[1][2], h[0][2], h[0][1]};
            for (int k = 0; k < 6; k++) {
                means[k] += six[k];
            }
        }
        return left ? 1 : 0;
    }

    long mean(int k) {
        return k < 0 || k > 5 ? 0 : means[k];
    }

    // ---- points

    int orbit(int slot, int a, int b, int c, int d) {
        if (lacks(slot) || d < 1 || d > 1000) {
            return NONE;
        }
        for (int v : new int[] {a, b, c}) {
            if (v < -10000 || v > 10000) {
                return NONE;
            }
        }
        int parts = 24 * d;
        List<Integer> own = List.of(Math.floorMod(24 * a, parts), Math.floorMod(24 * b, parts), Math.floorMod(24 * c, parts));
        Set<List<Integer>> set = new HashSet<>();
        stabiliser = new ArrayList<>();
        List<List<Integer>> kept = new ArrayList<>();
        int traces = 0;
        for (int i = 0; i < slots[slot].size(); i++) {
            List<Integer> o = slots[slot].get(i);
            List<Integer> x = new ArrayList<>();
            for (int r = 0; r < 3; r++) {
                long sum = (long) o.get(9 + r) * d;
                for (int j = 0; j < 3; j++) {
                    sum += (long) o.get(r * 3 + j) * own.get(j);
                }
                x.add((int) Math.floorMod(sum, (long) parts));
            }
            set.add(x);
            if (x.equals(own)) {
                stabiliser.add(i);
                kept.add(matrix(o));
                traces += trace(o);
            }
        }
        places = sorted(set);
        site = new int[] {kept.size(), classOf(kept), traces / kept.size(), places.indexOf(own), parts};
        return places.size();
    }

    int place(int i, int k) {
        return i < 0 || i >= places.size() || k < 0 || k > 2 ? NONE : places.get(i).get(k);
    }

    int site(int what) {
        return site == null || what < 0 || what > 4 ? NONE : site[what];
    }

    int stays(int i) {
        return i < 0 || i >= stabiliser.size() ? NONE : stabiliser.get(i);
    }

    // ---- reflections

    static List<Integer> led(List<Integer> o, int h, int k, int l, int sign) {
        List<Integer> x = new ArrayList<>();
        for (int c = 0; c < 3; c++) {
            x.add(sign * (h * o.get(c) + k * o.get(3 + c) + l * o.get(6 + c)));
        }
        return x;
    }

    int reflection(int slot, int h, int k, int l, int what) {
        if (lacks(slot) || what < 0 || what > 5) {
            return NONE;
        }
        for (int v : new int[] {h, k, l}) {
            if (v < -1000 || v > 1000) {
                return NONE;
            }
        }
        boolean absent = false;
        int phase = NONE;
        Set<List<Integer>> alike = new HashSet<>();
        Set<List<Integer>> friedel = new HashSet<>();
        Set<List<Integer>> leading = new HashSet<>();
        for (List<Integer> o : slots[slot]) {
            int turned = Math.floorMod(h * o.get(9) + k * o.get(10) + l * o.get(11), 24);
            List<Integer> x = led(o, h, k, l, 1);
            alike.add(x);
            friedel.add(x);
            friedel.add(led(o, h, k, l, -1));
            if (x.equals(List.of(h, k, l))) {
                absent |= turned != 0;
                leading.add(matrix(o));
            }
            if (phase == NONE && x.equals(List.of(-h, -k, -l))) {
                phase = turned;
            }
        }
        int[] answers = {absent ? 1 : 0, phase == NONE ? 0 : 1, alike.size(), friedel.size(), leading.size(),
            absent ? NONE : phase};
        return answers[what];
    }

    int absent(int slot, int n) {
        if (lacks(slot) || n < 0 || n > 6) {
            return NONE;
        }
        int count = 0;
        for (int h = -n; h <= n; h++) {
            for (int k = -n; k <= n; k++) {
                for (int l = -n; l <= n; l++) {
                    count += reflection(slot, h, k, l, 0);
                }
            }
        }
        return count;
    }
}
