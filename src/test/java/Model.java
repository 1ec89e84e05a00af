import java.math.BigDecimal;
import java.math.MathContext;
import java.util.ArrayList;
import java.util.Arrays;
import java.util.Comparator;
import java.util.List;
import java.util.regex.Matcher;
import java.util.regex.Pattern;

/**
 * The document once more, told as plainly as the library allows and by other means than the program: fractions,
 * times at which a wave turns, roots with eighty digits, texts by patterns, all sets and all rows tried.
 */
final class Model implements Cloneable {
    static final int NONE = -1;

    /** A fraction in its least terms, its lower number above 0. */
    record Frac(long up, long down) implements Comparable<Frac> {
        static Frac of(long up, long down) {
            long a = Math.abs(up);
            long b = Math.abs(down);
            while (b != 0) {
                long rest = a % b;
                a = b;
                b = rest;
            }
            long sign = down < 0 ? -1 : 1;
            return new Frac(sign * up / a, sign * down / a);
        }

        static Frac of(long whole) {
            return new Frac(whole, 1);
        }

        Frac plus(Frac other) {
            return of(up * other.down + other.up * down, down * other.down);
        }

        Frac minus(Frac other) {
            return of(up * other.down - other.up * down, down * other.down);
        }

        Frac times(Frac other) {
            return of(up * other.up, down * other.down);
        }

        Frac by(Frac other) {
            return of(up * other.down, down * other.up);
        }

        @Override
        public int compareTo(Frac other) {
            return Long.compare(up * other.down, other.up * down);
        }
    }

    record Pos(Frac x, Frac y) {
        static Pos of(long x, long y) {
            return new Pos(Frac.of(x), Frac.of(y));
        }
    }

    record Wall(int x1, int y1, int x2, int y2, int stuff, int told, int pulled) {
        boolean upright() {
            return x1 == x2;
        }
    }

    record Sender(int x, int y, int colour, int power, int told, int pulled) {
    }

    record Site(int x, int y, int power, int cost) {
    }

    record Test(boolean turned, String about, char sign, int number) {
    }

    record Line(List<Test> tests, boolean bar) {
    }

    record Way(int kind, int first, int second, int a, int b, long strength) {
        BigDecimal length() {
            return root(a).add(root(b));
        }
    }

    private static final BigDecimal[] ROOTS = new BigDecimal[10000];

    private static BigDecimal root(int square) {
        if (ROOTS[square] == null) {
            ROOTS[square] = new BigDecimal(square).sqrt(new MathContext(80));
        }
        return ROOTS[square];
    }

    /** Sums of roots so small that are nearer than this are equal. */
    private static final BigDecimal NEAR = new BigDecimal("1e-50");

    StringBuilder tape = new StringBuilder();
    int fault = 0;
    int faultPlace = NONE;
    int day = 0;
    int view = NONE;
    List<Wall> walls = new ArrayList<>();
    List<Sender> senders = new ArrayList<>();
    List<Site> sites = new ArrayList<>();
    List<int[]> needs = new ArrayList<>();
    List<int[]> walk = new ArrayList<>();
    List<Line> law = new ArrayList<>();
    int[] back = {50, 50, 50, 50, 50};
    int[] through = new int[5];
    int[] settings = {1, 0, 1, 100, 10, 10, 1};
    int[][] spans = new int[6][];
    Model[] images = new Model[3];

    private Model copy() {
        Model copy = new Model();
        copy.take(this);
        return copy;
    }

    private void take(Model other) {
        tape = new StringBuilder(other.tape);
        fault = other.fault;
        faultPlace = other.faultPlace;
        day = other.day;
        view = other.view;
        walls = new ArrayList<>(other.walls);
        senders = new ArrayList<>(other.senders);
        sites = new ArrayList<>(other.sites);
        needs = new ArrayList<>(other.needs);
        walk = new ArrayList<>(other.walk);
        law = new ArrayList<>(other.law);
        back = other.back.clone();
        through = other.through.clone();
        settings = other.settings.clone();
        spans = other.spans.clone();
    }

    boolean image(int k) {
        if (k < 0 || k > 2) {
            return false;
        }
        images[k] = copy();
        return true;
    }

    boolean again(int k) {
        if (k < 0 || k > 2 || images[k] == null) {
            return false;
        }
        take(images[k]);
        return true;
    }

    int feed(int... numbers) {
        if (tape.length() + 20 > 500) {
            return NONE;
        }
        for (int number : numbers) {
            for (int k = 3; k >= 0; k--) {
                tape.append((char) (number >>> 8 * k & 255));
            }
        }
        return tape.length();
    }

    int end(int n) {
        if (n < 0 || n > tape.length()) {
            return NONE;
        }
        tape.setLength(n);
        return n;
    }

    // Texts: each token becomes one letter, so that a pattern over letters is the grammar.

    record Token(char letter, String text, int place) {
    }

    private static final Pattern TOKEN = Pattern.compile("[a-z]+|[0-9]+|[:;<>=]|[^ \n]", Pattern.DOTALL);

    private static List<Token> tokensOf(String text, String words, String letters) {
        List<Token> tokens = new ArrayList<>();
        List<String> known = Arrays.asList(words.split(" "));
        Matcher matcher = TOKEN.matcher(text);
        while (matcher.find()) {
            String token = matcher.group();
            char letter = '!';
            if (token.matches("[0-9]{1,4}")) {
                letter = '0';
            } else if (token.matches("[:;<>=]")) {
                letter = token.charAt(0);
            } else if (known.contains(token)) {
                letter = letters.charAt(known.indexOf(token));
            }
            tokens.add(new Token(letter, token, matcher.start()));
        }
        return tokens;
    }

    private static int firstFault(List<Token> tokens, String grammar, int size) {
        Pattern pattern = Pattern.compile(grammar);
        StringBuilder letters = new StringBuilder();
        for (Token token : tokens) {
            letters.append(token.letter);
            Matcher matcher = pattern.matcher(letters);
            if (!matcher.matches() && !matcher.hitEnd()) {
                return token.place;
            }
        }
        return pattern.matcher(letters).matches() ? NONE : size;
    }

    int town() {
        String text = tape.toString();
        tape.setLength(0);
        List<Token> tokens = tokensOf(text, "wall sender need site", "WSNT");
        fault = 0;
        faultPlace = firstFault(tokens, "(W00000;|S0000;|N00;|T0000;)*", text.length());
        if (faultPlace != NONE) {
            fault = 1;
            return NONE;
        }
        Model after = copy();
        int lines = 0;
        List<Integer> numbers = new ArrayList<>();
        Token word = null;
        List<int[]> faults = new ArrayList<>();
        for (Token token : tokens) {
            if (token.letter == '0') {
                numbers.add(Integer.parseInt(token.text));
                checkNumber(word, numbers, token.place, faults);
            } else if (token.letter == ';') {
                lines++;
                after.takeLine(word, numbers, faults);
                numbers.clear();
            } else {
                word = token;
            }
        }
        if (!faults.isEmpty()) {
            faults.sort(Comparator.<int[]>comparingInt(f -> f[1]).thenComparingInt(f -> f[0]));
            fault = faults.get(0)[0];
            faultPlace = faults.get(0)[1];
            return NONE;
        }
        take(after);
        return lines;
    }

    private static void checkNumber(Token word, List<Integer> numbers, int place, List<int[]> faults) {
        int k = numbers.size() - 1;
        int number = numbers.get(k);
        boolean coordinate = k < 2 || word.letter == 'W' && k < 4;
        boolean fine = switch (word.letter) {
            case 'W' -> coordinate ? number <= 20 : number <= 4;
            case 'S' -> coordinate ? number <= 20 : k == 2 ? number <= 5 : number >= 1;
            case 'N' -> number <= 20;
            default -> coordinate ? number <= 20 : k == 2 ? number >= 1 : number >= 1 && number <= 999;
        };
        if (!fine) {
            faults.add(new int[] {2, place});
        }
    }

    private void takeLine(Token word, List<Integer> n, List<int[]> faults) {
        boolean full;
        switch (word.letter) {
            case 'W' -> {
                boolean straight = n.get(0).equals(n.get(2)) || n.get(1).equals(n.get(3));
                boolean one = n.get(0).equals(n.get(2)) && n.get(1).equals(n.get(3));
                if (one || !straight) {
                    faults.add(new int[] {3, word.place});
                }
                boolean turned = n.get(0) > n.get(2) || n.get(1) > n.get(3);
                full = walls.size() >= 12;
                walls.add(turned
                        ? new Wall(n.get(2), n.get(3), n.get(0), n.get(1), n.get(4), day, NONE)
                        : new Wall(n.get(0), n.get(1), n.get(2), n.get(3), n.get(4), day, NONE));
            }
            case 'S' -> {
                full = senders.size() >= 6;
                senders.add(new Sender(n.get(0), n.get(1), n.get(2), n.get(3), day, NONE));
            }
            case 'N' -> {
                full = needs.size() >= 8;
                needs.add(new int[] {n.get(0), n.get(1)});
            }
            default -> {
                full = sites.size() >= 8;
                sites.add(new Site(n.get(0), n.get(1), n.get(2), n.get(3)));
            }
        }
        if (full) {
            faults.add(new int[] {4, word.place});
        }
    }

    int law() {
        String text = tape.toString();
        tape.setLength(0);
        List<Token> tokens = tokensOf(text, "if and not alone colour power x y hour heard bar may", "IANLVVVVVVBM");
        fault = 0;
        faultPlace = firstFault(tokens, "((IN?(L|V[<>=]0)(AN?(L|V[<>=]0))*:)?[BM];)*", text.length());
        if (faultPlace != NONE) {
            fault = 1;
            return NONE;
        }
        List<Line> lines = new ArrayList<>();
        List<Test> tests = new ArrayList<>();
        boolean fresh = true;
        int turnedAt = NONE;
        for (int k = 0; k < tokens.size(); k++) {
            Token token = tokens.get(k);
            if (fresh && lines.size() == 16) {
                blame(5, token.place);
            }
            fresh = token.letter == ';';
            switch (token.letter) {
                case 'N' -> turnedAt = token.place;
                case 'L', 'V' -> {
                    boolean turned = turnedAt != NONE;
                    if (tests.size() == 4) {
                        blame(5, turned ? turnedAt : token.place);
                    }
                    boolean alone = token.letter == 'L';
                    tests.add(new Test(turned, token.text, alone ? ' ' : tokens.get(k + 1).letter,
                            alone ? 0 : Integer.parseInt(tokens.get(k + 2).text)));
                    turnedAt = NONE;
                }
                case 'B', 'M' -> {
                    lines.add(new Line(new ArrayList<>(tests), token.letter == 'B'));
                    tests.clear();
                }
                default -> {
                }
            }
        }
        if (fault != 0) {
            return NONE;
        }
        law = lines;
        return lines.size();
    }

    private void blame(int number, int place) {
        if (fault == 0) {
            fault = number;
            faultPlace = place;
        }
    }

    int fault(int what) {
        return what == 0 ? fault : what == 1 ? faultPlace : NONE;
    }

    boolean day(int to) {
        if (to < day || to > 999) {
            return false;
        }
        day = to;
        return true;
    }

    boolean view(int to) {
        if (to < -1 || to > day) {
            return false;
        }
        view = to;
        return true;
    }

    boolean pull(boolean wall, int k) {
        if (k < 0 || k >= (wall ? walls.size() : senders.size())) {
            return false;
        }
        if (wall) {
            Wall w = walls.get(k);
            if (w.pulled != NONE) {
                return false;
            }
            walls.set(k, new Wall(w.x1, w.y1, w.x2, w.y2, w.stuff, w.told, day));
        } else {
            Sender s = senders.get(k);
            if (s.pulled != NONE) {
                return false;
            }
            senders.set(k, new Sender(s.x, s.y, s.colour, s.power, s.told, day));
        }
        return true;
    }

    boolean stuff(int stuff, int b, int t) {
        if (stuff < 0 || stuff > 4 || b < 0 || b > 100 || t < 0 || t > 100) {
            return false;
        }
        back[stuff] = b;
        through[stuff] = t;
        return true;
    }

    boolean set(int what, int number) {
        int[] low = {0, 0, 0, 0, 1, 0, 1};
        int[] high = {2, 100, 9999, 9999, 9999, 999, 9};
        if (what < 0 || what > 6 || number < low[what] || number > high[what]) {
            return false;
        }
        settings[what] = number;
        return true;
    }

    int wall(int k, int what) {
        if (k < 0 || k >= walls.size() || what < 0 || what > 6) {
            return -2;
        }
        Wall w = walls.get(k);
        return new int[] {w.x1, w.y1, w.x2, w.y2, w.stuff, w.told, w.pulled}[what];
    }

    int sender(int k, int what) {
        if (k < 0 || k >= senders.size() || what < 0 || what > 5) {
            return -2;
        }
        Sender s = senders.get(k);
        return new int[] {s.x, s.y, s.colour, s.power, s.told, s.pulled}[what];
    }

    private boolean known(int told, int pulled) {
        int by = view == NONE ? day : view;
        return told <= by && !(pulled != NONE && pulled <= by);
    }

    private boolean stands(int wall) {
        return known(walls.get(wall).told, walls.get(wall).pulled);
    }

    private boolean sends(int sender) {
        return sender >= 0 && sender < senders.size() && known(senders.get(sender).told, senders.get(sender).pulled);
    }

    private static boolean point(int x, int y) {
        return x >= 0 && x <= 20 && y >= 0 && y <= 20;
    }

    // Ways.

    private static boolean meets(Pos from, Pos to, Wall wall) {
        Frac start = wall.upright() ? from.x : from.y;
        Frac stop = wall.upright() ? to.x : to.y;
        Frac line = Frac.of(wall.upright() ? wall.x1 : wall.y1);
        if (start.compareTo(line) * stop.compareTo(line) >= 0) {
            return false;
        }
        Frac time = line.minus(start).by(stop.minus(start));
        Frac otherStart = wall.upright() ? from.y : from.x;
        Frac otherStop = wall.upright() ? to.y : to.x;
        return covers(wall, otherStart.plus(otherStop.minus(otherStart).times(time)));
    }

    private static boolean covers(Wall wall, Frac along) {
        return Frac.of(wall.upright() ? wall.y1 : wall.x1).compareTo(along) <= 0
                && along.compareTo(Frac.of(wall.upright() ? wall.y2 : wall.x2)) <= 0;
    }

    /** The strength behind all legs, NONE if the way is barred. */
    private long strength(long power, int d, List<Integer> percents, Pos... stops) {
        long strength = power * 1000 / (d == 0 ? 1 : d);
        for (int percent : percents) {
            strength = strength * percent / 100;
        }
        for (int leg = 0; leg + 1 < stops.length; leg++) {
            for (int k = 0; k < walls.size(); k++) {
                if (stands(k) && meets(stops[leg], stops[leg + 1], walls.get(k))) {
                    int percent = through[walls.get(k).stuff];
                    if (percent == 0) {
                        return NONE;
                    }
                    strength = strength * percent / 100;
                }
            }
        }
        return strength;
    }

    private static int square(int dx, int dy) {
        return dx * dx + dy * dy;
    }

    List<Way> waysOf(int sx, int sy, int power, int x, int y) {
        List<Way> ways = new ArrayList<>();
        Pos source = Pos.of(sx, sy);
        Pos target = Pos.of(x, y);
        int sight = square(sx - x, sy - y);
        ways.add(new Way(0, NONE, NONE, sight, 0, strength(power, sight, List.of(), source, target)));
        boolean barred = ways.get(0).strength == NONE;
        for (int i = 0; i < walls.size() && settings[0] >= 1; i++) {
            if (stands(i)) {
                addMirror(ways, i, sx, sy, power, x, y);
            }
        }
        for (int i = 0; i < walls.size() && settings[0] >= 2; i++) {
            for (int j = 0; j < walls.size(); j++) {
                if (i != j && stands(i) && stands(j)) {
                    addMirrors(ways, i, j, new int[] {sx, sy, power, x, y});
                }
            }
        }
        if (barred && settings[1] > 0) {
            addCorners(ways, sx, sy, power, x, y);
        }
        ways.removeIf(way -> way.strength == NONE);
        ways.sort((a, b) -> {
            int order = lengths(a, b);
            order = order != 0 ? order : Integer.compare(a.kind, b.kind);
            order = order != 0 ? order : Integer.compare(a.first, b.first);
            return order != 0 ? order : Integer.compare(a.second, b.second);
        });
        return ways;
    }

    private static int lengths(Way a, Way b) {
        BigDecimal more = a.length().subtract(b.length());
        return more.abs().compareTo(NEAR) < 0 ? 0 : more.signum();
    }

    private void addMirror(List<Way> ways, int i, int sx, int sy, int power, int x, int y) {
        Wall w = walls.get(i);
        int line = w.upright() ? w.x1 : w.y1;
        int from = (w.upright() ? sx : sy) - line;
        int to = (w.upright() ? x : y) - line;
        if (from * to <= 0) {
            return;
        }
        Frac time = Frac.of(from, from + to);
        Frac along = w.upright() ? Frac.of(sy).plus(Frac.of(y - sy).times(time)) : Frac.of(sx).plus(Frac.of(x - sx).times(time));
        if (!covers(w, along)) {
            return;
        }
        Pos turn = w.upright() ? new Pos(Frac.of(line), along) : new Pos(along, Frac.of(line));
        int d = square(from + to, w.upright() ? y - sy : x - sx);
        ways.add(new Way(1, i, NONE, d, 0, strength(power, d, List.of(back[w.stuff]), Pos.of(sx, sy), turn, Pos.of(x, y))));
    }

    /** By the times, from 0 to 1, at which the wave turns. */
    private void addMirrors(List<Way> ways, int i, int j, int[] at) {
        Wall one = walls.get(i);
        Wall two = walls.get(j);
        Pos[] turns = one.upright() == two.upright() ? turnsBetween(one, two, at) : turnsInCorner(one, two, at);
        if (turns == null) {
            return;
        }
        if (!covers(one, one.upright() ? turns[0].y : turns[0].x) || !covers(two, two.upright() ? turns[1].y : turns[1].x)) {
            return;
        }
        int[] image = {at[0], at[1]};
        for (Wall w : List.of(one, two)) {
            image[w.upright() ? 0 : 1] = 2 * (w.upright() ? w.x1 : w.y1) - image[w.upright() ? 0 : 1];
        }
        int d = square(image[0] - at[3], image[1] - at[4]);
        ways.add(new Way(2, i, j, d, 0, strength(at[2], d, List.of(back[one.stuff], back[two.stuff]),
                Pos.of(at[0], at[1]), turns[0], turns[1], Pos.of(at[3], at[4]))));
    }

    private static Pos[] turnsBetween(Wall one, Wall two, int[] at) {
        boolean upright = one.upright();
        int a = upright ? one.x1 : one.y1;
        int b = upright ? two.x1 : two.y1;
        int s = upright ? at[0] : at[1];
        int p = upright ? at[3] : at[4];
        if ((s - a) * (b - a) <= 0 || (p - b) * (a - b) <= 0) {
            return null;
        }
        int all = Math.abs(s - a) + Math.abs(a - b) + Math.abs(p - b);
        Frac start = Frac.of(upright ? at[1] : at[0]);
        Frac way = Frac.of(upright ? at[4] - at[1] : at[3] - at[0]);
        Frac first = start.plus(way.times(Frac.of(Math.abs(s - a), all)));
        Frac second = start.plus(way.times(Frac.of(all - Math.abs(p - b), all)));
        return upright
                ? new Pos[] {new Pos(Frac.of(a), first), new Pos(Frac.of(b), second)}
                : new Pos[] {new Pos(first, Frac.of(a)), new Pos(second, Frac.of(b))};
    }

    private static Pos[] turnsInCorner(Wall one, Wall two, int[] at) {
        int a = one.upright() ? one.x1 : two.x1;
        int b = one.upright() ? two.y1 : one.y1;
        int sx = at[0] - a;
        int px = at[3] - a;
        int sy = at[1] - b;
        int py = at[4] - b;
        if (sx * px <= 0 || sy * py <= 0) {
            return null;
        }
        Frac timeX = Frac.of(sx, sx + px);
        Frac timeY = Frac.of(sy, sy + py);
        if ((one.upright() ? timeX : timeY).compareTo(one.upright() ? timeY : timeX) >= 0) {
            return null;
        }
        Pos onUpright = new Pos(Frac.of(a), folded(b, sy, py, timeX));
        Pos onLying = new Pos(folded(a, sx, px, timeY), Frac.of(b));
        return one.upright() ? new Pos[] {onUpright, onLying} : new Pos[] {onLying, onUpright};
    }

    /** Where a wave is at a time that goes from line + s to the line and back to line + p. */
    private static Frac folded(int line, int s, int p, Frac time) {
        Frac straight = Frac.of(s).minus(Frac.of(s + p).times(time));
        boolean behind = straight.compareTo(Frac.of(0)) * Integer.signum(s) < 0;
        return Frac.of(line).plus(behind ? Frac.of(0).minus(straight) : straight);
    }

    private void addCorners(List<Way> ways, int sx, int sy, int power, int x, int y) {
        List<String> seen = new ArrayList<>();
        for (int i = 0; i < walls.size(); i++) {
            Wall w = walls.get(i);
            for (int end = 0; end < 2 && stands(i); end++) {
                int cx = end == 0 ? w.x1 : w.x2;
                int cy = end == 0 ? w.y1 : w.y2;
                int a = square(cx - sx, cy - sy);
                int b = square(cx - x, cy - y);
                if (seen.contains(cx + " " + cy) || a == 0 || b == 0) {
                    continue;
                }
                seen.add(cx + " " + cy);
                int d = a + b + 2 * (int) Math.floor(Math.sqrt((double) a * b));
                ways.add(new Way(3, i, end, a, b, strength(power, d, List.of(settings[1]), Pos.of(sx, sy), Pos.of(cx, cy), Pos.of(x, y))));
            }
        }
    }

    private List<Way> waysOf(int sender, int x, int y) {
        if (!sends(sender) || !point(x, y)) {
            return null;
        }
        Sender s = senders.get(sender);
        return waysOf(s.x, s.y, s.power, x, y);
    }

    boolean sees(int sender, int x, int y) {
        List<Way> ways = waysOf(sender, x, y);
        return ways != null && ways.stream().anyMatch(way -> way.kind == 0);
    }

    int ways(int sender, int x, int y) {
        List<Way> ways = waysOf(sender, x, y);
        return ways == null ? NONE : ways.size();
    }

    int way(int sender, int x, int y, int k, int what) {
        List<Way> ways = waysOf(sender, x, y);
        if (ways == null || k < 0 || k >= ways.size()) {
            return -2;
        }
        Way w = ways.get(k);
        return switch (what) {
            case 0 -> w.kind;
            case 1 -> w.first;
            case 2 -> w.second;
            case 3 -> w.a;
            case 4 -> w.b;
            case 5 -> (int) w.strength;
            case 6 -> late(w.a) + late(w.b);
            default -> -2;
        };
    }

    private static int late(int square) {
        return root(square).multiply(BigDecimal.valueOf(100)).intValue();
    }

    int compare(int a, int k, int b, int i, int x, int y) {
        List<Way> one = waysOf(a, x, y);
        List<Way> two = waysOf(b, x, y);
        if (one == null || two == null || k < 0 || i < 0 || k >= one.size() || i >= two.size()) {
            return -2;
        }
        return lengths(one.get(k), two.get(i));
    }

    private static long sum(List<Way> ways) {
        return ways.stream().mapToLong(Way::strength).sum();
    }

    int signal(int sender, int x, int y) {
        List<Way> ways = waysOf(sender, x, y);
        return ways == null ? NONE : (int) sum(ways);
    }

    private boolean heard(int sender, int x, int y) {
        long against = settings[2];
        for (int other = 0; other < senders.size(); other++) {
            if (other != sender && sends(other) && senders.get(other).colour == senders.get(sender).colour) {
                against += signal(other, x, y);
            }
        }
        long own = signal(sender, x, y);
        return own > 0 && own * 100 >= settings[3] * against;
    }

    int heard(int x, int y) {
        if (!point(x, y)) {
            return NONE;
        }
        int bits = 0;
        for (int sender = 0; sender < senders.size(); sender++) {
            if (sends(sender) && heard(sender, x, y)) {
                bits += 1 << sender;
            }
        }
        return bits;
    }

    int best(int x, int y) {
        int bits = heard(x, y);
        int best = NONE;
        for (int sender = 5; sender >= 0 && bits != NONE; sender--) {
            if ((bits >> sender & 1) == 1 && (best == NONE || signal(sender, x, y) >= signal(best, x, y))) {
                best = sender;
            }
        }
        return best;
    }

    int step(int x, int y) {
        if (walk.size() == 60 || !point(x, y)) {
            return NONE;
        }
        walk.add(new int[] {x, y});
        return walk.size();
    }

    void unwalk() {
        walk.clear();
    }

    private int[] servers() {
        int[] servers = new int[walk.size()];
        int now = NONE;
        int wishes = 0;
        for (int t = 0; t < servers.length; t++) {
            int x = walk.get(t)[0];
            int y = walk.get(t)[1];
            int best = best(x, y);
            if (now == NONE || (heard(x, y) >> now & 1) == 0) {
                now = best;
                wishes = 0;
            } else if (best != now && signal(best, x, y) * 100L > (100L + settings[5]) * signal(now, x, y)) {
                wishes++;
                if (wishes == settings[6]) {
                    now = best;
                    wishes = 0;
                }
            } else {
                wishes = 0;
            }
            servers[t] = now;
        }
        return servers;
    }

    int served(int second) {
        return second < 0 || second >= walk.size() ? NONE : servers()[second];
    }

    int walk(int what) {
        int[] servers = servers();
        int changes = 0;
        int lost = 0;
        for (int t = 0; t < servers.length; t++) {
            lost += servers[t] == NONE ? 1 : 0;
            if (t > 0 && servers[t] != NONE && servers[t - 1] != NONE && servers[t] != servers[t - 1]) {
                changes++;
            }
        }
        return switch (what) {
            case 0 -> servers.length;
            case 1 -> changes;
            case 2 -> lost;
            default -> NONE;
        };
    }

    int serves(int site, int need) {
        if (site < 0 || site >= sites.size() || need < 0 || need >= needs.size()) {
            return NONE;
        }
        Site s = sites.get(site);
        return (int) sum(waysOf(s.x, s.y, s.power, needs.get(need)[0], needs.get(need)[1]));
    }

    int cover(int what) {
        int[][] signals = new int[sites.size()][needs.size()];
        for (int site = 0; site < sites.size(); site++) {
            for (int need = 0; need < needs.size(); need++) {
                signals[site][need] = serves(site, need);
            }
        }
        List<int[]> sets = new ArrayList<>();
        for (int set = 0; set < 1 << sites.size(); set++) {
            boolean all = true;
            int cost = 0;
            for (int need = 0; need < needs.size(); need++) {
                boolean some = false;
                for (int site = 0; site < sites.size(); site++) {
                    some |= (set >> site & 1) == 1 && signals[site][need] >= settings[4];
                }
                all &= some;
            }
            for (int site = 0; site < sites.size(); site++) {
                cost += (set >> site & 1) * sites.get(site).cost;
            }
            if (all) {
                sets.add(new int[] {cost, Integer.bitCount(set), set});
            }
        }
        sets.sort(Arrays::compare);
        return what < 0 || what > 2 || sets.isEmpty() ? NONE : sets.get(0)[what];
    }

    boolean clash(int a, int b) {
        if (a == b || !sends(a) || !sends(b)) {
            return false;
        }
        for (int[] need : needs) {
            if (signal(a, need[0], need[1]) >= settings[4] && signal(b, need[0], need[1]) >= settings[4]) {
                return true;
            }
        }
        return false;
    }

    /** All rows of numbers tried; NONE of a sender that does not stand. */
    private int[] colouring() {
        int n = senders.size();
        boolean[][] clashes = new boolean[n][n];
        for (int a = 0; a < n; a++) {
            for (int b = 0; b < n; b++) {
                clashes[a][b] = clash(a, b);
            }
        }
        int[] best = null;
        long fewest = 99;
        for (int row = 0; row < Math.pow(6, n); row++) {
            int[] colours = new int[n];
            int rest = row;
            boolean fine = true;
            for (int s = n - 1; s >= 0; s--) {
                colours[s] = sends(s) ? rest % 6 : NONE;
                fine &= sends(s) || rest % 6 == 0;
                rest /= 6;
            }
            for (int a = 0; a < n; a++) {
                for (int b = 0; b < a; b++) {
                    fine &= !clashes[a][b] || colours[a] != colours[b];
                }
            }
            long used = Arrays.stream(colours).filter(c -> c != NONE).distinct().count();
            if (fine && used < fewest) {
                fewest = used;
                best = colours;
            }
        }
        return best;
    }

    int colour(int sender) {
        return sends(sender) ? colouring()[sender] : NONE;
    }

    boolean span(int sender, int a, int b) {
        if (sender < 0 || sender >= senders.size()) {
            return false;
        }
        if (a == NONE) {
            spans[sender] = null;
            return true;
        }
        if (a < 0 || b < a || b > 1000000000) {
            return false;
        }
        spans[sender] = new int[] {a, b};
        return true;
    }

    private List<Integer> fitting() {
        List<Integer> fitting = new ArrayList<>();
        for (int y = 0; y <= 20; y++) {
            for (int x = 0; x <= 20; x++) {
                boolean fits = true;
                for (int s = 0; s < senders.size(); s++) {
                    if (fits && sends(s) && spans[s] != null) {
                        int signal = signal(s, x, y);
                        fits = spans[s][0] <= signal && signal <= spans[s][1];
                    }
                }
                if (fits) {
                    fitting.add(100 * y + x);
                }
            }
        }
        return fitting;
    }

    int places() {
        return fitting().size();
    }

    int place(int k) {
        List<Integer> fitting = fitting();
        return k < 0 || k >= fitting.size() ? NONE : fitting.get(k);
    }

    int echo(int sender, int x, int y, int e, int k) {
        if (!sends(sender) || !point(x, y)) {
            return NONE;
        }
        Sender s = senders.get(sender);
        List<Integer> lines = new ArrayList<>();
        for (int c = 0; c <= 20; c++) {
            boolean side = s.x < c && x < c || s.x > c && x > c;
            if (side && square(2 * c - s.x - x, s.y - y) == e) {
                lines.add(c);
            }
        }
        for (int c = 0; c <= 20; c++) {
            boolean side = s.y < c && y < c || s.y > c && y > c;
            if (side && square(2 * c - s.y - y, s.x - x) == e) {
                lines.add(100 + c);
            }
        }
        return k < 0 || k >= lines.size() ? NONE : lines.get(k);
    }

    private boolean holds(Test test, int sender, int hour) {
        Sender s = senders.get(sender);
        boolean holds;
        if (test.about.equals("alone")) {
            holds = true;
            for (int other = 0; other < senders.size(); other++) {
                holds &= other == sender || !sends(other) || senders.get(other).colour != s.colour;
            }
        } else {
            int value = switch (test.about) {
                case "colour" -> s.colour;
                case "power" -> s.power;
                case "x" -> s.x;
                case "y" -> s.y;
                case "hour" -> hour;
                default -> Math.min(9999, needs.stream().mapToInt(n -> signal(sender, n[0], n[1])).max().orElse(0));
            };
            int order = Integer.compare(value, test.number);
            holds = test.sign == '<' ? order < 0 : test.sign == '>' ? order > 0 : order == 0;
        }
        return holds != test.turned;
    }

    int why(int sender, int hour) {
        if (!sends(sender) || hour < 0 || hour > 23) {
            return NONE;
        }
        for (int line = 0; line < law.size(); line++) {
            if (law.get(line).tests.stream().allMatch(test -> holds(test, sender, hour))) {
                return line;
            }
        }
        return NONE;
    }

    int breach(int what) {
        for (int hour = 0; hour < 24; hour++) {
            for (int sender = 0; sender < senders.size(); sender++) {
                int line = why(sender, hour);
                if (line != NONE && law.get(line).bar) {
                    return what == 0 ? hour : what == 1 ? sender : NONE;
                }
            }
        }
        return NONE;
    }

    int count(int what) {
        int standing = 0;
        for (int k = 0; k < walls.size(); k++) {
            standing += stands(k) ? 1 : 0;
        }
        int sending = 0;
        for (int k = 0; k < senders.size(); k++) {
            sending += sends(k) ? 1 : 0;
        }
        return switch (what) {
            case 0 -> standing;
            case 1 -> sending;
            case 2 -> walls.size();
            case 3 -> senders.size();
            case 4 -> sites.size();
            case 5 -> needs.size();
            case 6 -> day;
            case 7 -> view;
            case 8 -> law.size();
            case 9 -> (int) Arrays.stream(colouring()).filter(c -> c != NONE).distinct().count();
            default -> -2;
        };
    }
}
