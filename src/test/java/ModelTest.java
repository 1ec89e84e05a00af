import java.util.ArrayList;
import java.util.List;

/** Many runs of calls, each call asked of the program and of the model of the document. */
public final class ModelTest {
    private static final String[] TOWN_WORDS = {"wall", "sender", "need", "site"};
    private static final String[] LAW_WORDS = {"colour", "power", "x", "y", "hour", "heard"};

    private final Checks checks = new Checks();
    private long seed;
    private StreetWaves waves;
    private Model model;
    private int side;
    private List<String> calls;

    private ModelTest(long seed) {
        this.seed = seed * 2862933555777941757L + 3037000493L;
    }

    public static void main(String[] args) {
        int runs = args.length > 0 ? Integer.parseInt(args[0]) : 400;
        int from = args.length > 1 ? Integer.parseInt(args[1]) : 0;
        ModelTest all = new ModelTest(from);
        for (int run = from; run < from + runs; run++) {
            all.seed = run * 2862933555777941757L + 3037000493L;
            all.run(run);
        }
        all.checks.finish();
    }

    private int pick(int below) {
        seed = seed * 6364136223846793005L + 1442695040888963407L;
        return (int) ((seed >>> 33) % below);
    }

    private boolean oneIn(int n) {
        return pick(n) == 0;
    }

    private void run(int run) {
        waves = new StreetWaves();
        model = new Model();
        calls = new ArrayList<>();
        side = new int[] {4, 6, 9, 21}[pick(4)];
        for (int k = 0; k < 2 + pick(4); k++) {
            tell(townText());
        }
        if (oneIn(2)) {
            same(run, "set(0,2)", waves.set(0, 2) ? 1 : 0, model.set(0, 2) ? 1 : 0);
        }
        for (int stuff = 0; stuff < 5; stuff++) {
            int back = pick(101);
            int through = oneIn(2) ? 0 : pick(101);
            same(run, "stuff", waves.stuff(stuff, back, through) ? 1 : 0, model.stuff(stuff, back, through) ? 1 : 0);
        }
        for (int call = 0; call < 120; call++) {
            act(run);
        }
    }

    private void same(int run, String call, long got, long want) {
        calls.add(call);
        checks.due("run " + run + ": " + call + " (side " + side + ")", got, want);
    }

    private void same(int run, String call, boolean got, boolean want) {
        same(run, call, got ? 1 : 0, want ? 1 : 0);
    }

    private int coordinate() {
        return oneIn(60) ? pick(5) * 8 - 9 : pick(side);
    }

    private int number(int most) {
        return oneIn(25) ? -3 + pick(most + 8) : pick(most + 1);
    }

    private int id() {
        return oneIn(20) ? pick(20) - 5 : pick(Math.max(1, model.senders.size()));
    }

    // Texts.

    private String gap() {
        return new String[] {" ", " ", " ", "\n", "  ", " \n "}[pick(6)];
    }

    private String point() {
        return pick(side) + gap() + pick(side);
    }

    private String townLine() {
        switch (pick(6)) {
            case 0: return "sender" + gap() + point() + gap() + pick(oneIn(2) ? 2 : 6) + gap() + (1 + pick(oneIn(2) ? 9999 : 40));
            case 1: return "need" + gap() + point();
            case 2: return "site" + gap() + point() + gap() + (1 + pick(200)) + gap() + (1 + pick(oneIn(2) ? 4 : 999));
            default:
                int x = pick(side);
                int y = pick(side);
                int other = (oneIn(2) ? pick(side) : x + 1 + pick(side)) % side;
                if (oneIn(60)) {
                    return "wall " + point() + " " + point() + " " + pick(6);
                }
                return oneIn(2)
                        ? "wall" + gap() + x + gap() + y + gap() + other + gap() + y + gap() + pick(5)
                        : "wall" + gap() + y + gap() + x + gap() + y + gap() + other + gap() + pick(5);
        }
    }

    private String townText() {
        StringBuilder text = new StringBuilder();
        for (int k = pick(7); k >= 0; k--) {
            text.append(townLine()).append(oneIn(3) ? gap() : "").append(';').append(oneIn(3) ? gap() : "");
        }
        return text.toString();
    }

    private String lawTest() {
        String not = oneIn(3) ? "not" + gap() : "";
        if (oneIn(5)) {
            return not + "alone";
        }
        int about = pick(6);
        int number = new int[] {pick(6), pick(oneIn(2) ? 9999 : 40), pick(side), pick(side), pick(24), pick(9999)}[about];
        return not + LAW_WORDS[about] + (oneIn(4) ? gap() : "") + "<>=".charAt(pick(3)) + (oneIn(4) ? gap() : "") + number;
    }

    private String lawText() {
        StringBuilder text = new StringBuilder();
        for (int k = oneIn(12) ? 12 + pick(10) : pick(7); k > 0; k--) {
            for (int tests = oneIn(5) ? 0 : oneIn(9) ? pick(7) : pick(4), t = 0; t < tests; t++) {
                text.append(t == 0 ? "if" : "and").append(gap()).append(lawTest());
                text.append(t == tests - 1 ? ":" : gap());
            }
            text.append(oneIn(2) ? "bar" : "may").append(oneIn(4) ? gap() : "").append(';').append(oneIn(3) ? gap() : "");
        }
        return text.toString();
    }

    private String spoil(String text) {
        StringBuilder spoiled = new StringBuilder(text);
        String bits = "a;:<>=0123456789 \nwalxy#A" + (char) 0 + (char) 200 + (char) 9;
        for (int k = 0; k <= pick(2); k++) {
            int at = pick(spoiled.length() + 1);
            if (oneIn(3) && at < spoiled.length()) {
                spoiled.deleteCharAt(at);
            } else if (oneIn(4)) {
                spoiled.insert(at, " " + (oneIn(2) ? TOWN_WORDS[pick(4)] : LAW_WORDS[pick(6)]) + " ");
            } else if (oneIn(5)) {
                spoiled.setLength(at);
            } else {
                spoiled.insert(at, bits.charAt(pick(bits.length())));
            }
        }
        return spoiled.toString();
    }

    private static String fit(String text) {
        return text.length() > 480 ? text.substring(0, 480) : text;
    }

    private void tell(String text) {
        String told = fit(text);
        Checks.feed(waves, told);
        model.tape.setLength(0);
        model.tape.append(told);
        same(0, "town of '" + told + "'", waves.town(), model.town());
        same(0, "fault(0) of '" + told + "'", waves.fault(0), model.fault(0));
        same(0, "fault(1) of '" + told + "'", waves.fault(1), model.fault(1));
    }

    private void rule(String text) {
        String told = fit(text);
        waves.end(0);
        Checks.feed(waves, told);
        model.tape.setLength(0);
        model.tape.append(told);
        same(0, "law of '" + told + "'", waves.law(), model.law());
        same(0, "fault(0) of '" + told + "'", waves.fault(0), model.fault(0));
        same(0, "fault(1) of '" + told + "'", waves.fault(1), model.fault(1));
    }

    // Calls.

    private void act(int run) {
        if (oneIn(4)) {
            change(run);
        } else if (oneIn(2)) {
            askWays(run);
        } else {
            askMore(run);
        }
    }

    private void change(int run) {
        int a = number(4);
        int b = number(100);
        int c = number(100);
        int day = model.day + (oneIn(4) ? pick(40) - 20 : pick(3));
        switch (pick(14)) {
            case 0 -> {
                waves.end(0);
                tell(oneIn(2) ? spoil(townText()) : townText());
            }
            case 1, 2 -> rule(oneIn(3) ? spoil(lawText()) : lawText());
            case 3 -> same(run, "day " + day, waves.day(day), model.day(day));
            case 4 -> same(run, "view " + day, waves.view(day - 1), model.view(day - 1));
            case 5 -> same(run, "view now", waves.view(-1), model.view(-1));
            case 6 -> {
                int k = pick(14) - 1;
                boolean wall = !oneIn(3);
                same(run, "pull " + wall + " " + k, waves.pull(wall, k), model.pull(wall, k));
            }
            case 7 -> same(run, "stuff " + a + " " + b + " " + c, waves.stuff(a, b, c), model.stuff(a, b, c));
            case 8, 9 -> {
                int what = number(6);
                int most = new int[] {2, 100, 300, 300, 900, 200, 4}[Math.floorMod(what, 7)];
                int number = number(most);
                same(run, "set " + what + " " + number, waves.set(what, number), model.set(what, number));
            }
            case 10 -> same(run, "image " + a, waves.image(a - 1), model.image(a - 1));
            case 11 -> same(run, "again " + a, waves.again(a - 1), model.again(a - 1));
            case 12 -> {
                int sender = id();
                int from = oneIn(3) ? -1 : pick(3000);
                int to = from + pick(90000) - (oneIn(9) ? 90000 : 0);
                same(run, "span " + sender + " " + from + " " + to, waves.span(sender, from, to), model.span(sender, from, to));
            }
            default -> feedOrEnd(run);
        }
    }

    private void feedOrEnd(int run) {
        if (oneIn(3)) {
            int n = pick(520) - 10;
            same(run, "end " + n, waves.end(n), model.end(n));
            return;
        }
        for (int k = pick(30); k >= 0; k--) {
            int n = pick(1 << 30) * 4 + pick(4);
            same(run, "feed", waves.feed(n, k, -n, n * n, -1), model.feed(n, k, -n, n * n, -1));
        }
        waves.town();
        model.town();
        same(run, "fault(1)", waves.fault(1), model.fault(1));
    }

    private void askWays(int run) {
        int s = id();
        int x = coordinate();
        int y = coordinate();
        String at = " " + s + " " + x + " " + y;
        same(run, "sees" + at, waves.sees(s, x, y), model.sees(s, x, y));
        same(run, "signal" + at, waves.signal(s, x, y), model.signal(s, x, y));
        int n = model.ways(s, x, y);
        same(run, "ways" + at, waves.ways(s, x, y), n);
        for (int k = 0; k <= n && k < 12; k++) {
            for (int what = 0; what <= 6; what++) {
                same(run, "way" + at + " " + k + " " + what, waves.way(s, x, y, k, what), model.way(s, x, y, k, what));
            }
        }
        int b = id();
        int k = pick(6) - 1;
        int i = pick(6) - 1;
        same(run, "compare" + at + " " + k + " " + b + " " + i, waves.compare(s, k, b, i, x, y), model.compare(s, k, b, i, x, y));
        same(run, "heard" + at, waves.heard(x, y), model.heard(x, y));
        same(run, "best" + at, waves.best(x, y), model.best(x, y));
        int e = oneIn(3) ? pick(1600) : Math.max(0, model.way(s, x, y, 1, 3));
        for (int line = -1; line < 3; line++) {
            same(run, "echo" + at + " " + e, waves.echo(s, x, y, e, line), model.echo(s, x, y, e, line));
        }
    }

    private void askMore(int run) {
        int what = number(3);
        int a = id();
        int b = id();
        switch (pick(12)) {
            case 0, 1 -> {
                for (int k = pick(6); k >= 0; k--) {
                    int x = coordinate();
                    int y = coordinate();
                    same(run, "step " + x + " " + y, waves.step(x, y), model.step(x, y));
                }
                for (int t = -1; t < 8; t++) {
                    same(run, "served " + t, waves.served(t), model.served(t));
                }
                same(run, "walk " + what, waves.walk(what), model.walk(what));
            }
            case 2 -> {
                if (oneIn(4)) {
                    waves.unwalk();
                    model.unwalk();
                }
                same(run, "walk 0", waves.walk(0), model.walk(0));
            }
            case 3 -> same(run, "cover " + what, waves.cover(what), model.cover(what));
            case 4 -> {
                int site = number(7);
                int need = number(7);
                same(run, "serves " + site + " " + need, waves.serves(site, need), model.serves(site, need));
            }
            case 5 -> same(run, "clash " + a + " " + b, waves.clash(a, b), model.clash(a, b));
            case 6 -> same(run, "colour " + a, waves.colour(a), model.colour(a));
            case 7 -> {
                if (oneIn(4)) {
                    same(run, "places", waves.places(), model.places());
                    int k = pick(450) - 2;
                    same(run, "place " + k, waves.place(k), model.place(k));
                    same(run, "place 0", waves.place(0), model.place(0));
                }
            }
            case 8 -> {
                for (int hour = -1; hour < 25; hour += 1 + pick(5)) {
                    same(run, "why " + a + " " + hour, waves.why(a, hour), model.why(a, hour));
                }
            }
            case 9 -> same(run, "breach " + what, waves.breach(what), model.breach(what));
            case 10 -> {
                int k = number(11);
                int of = number(6);
                same(run, "wall " + k + " " + of, waves.wall(k, of), model.wall(k, of));
                same(run, "sender " + a + " " + of, waves.sender(a, of), model.sender(a, of));
            }
            default -> {
                int of = number(9);
                same(run, "count " + of, waves.count(of), model.count(of));
            }
        }
    }
}
