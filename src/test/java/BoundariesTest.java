import java.math.BigInteger;

/** Promises 1 to 19 of the document: each sentence that names a boundary case. */
public final class BoundariesTest extends Trial {
    private static final int BLANKS = 0x20202020;
    private static final String SMALL = "sender 4 5 0 9;wall 0 0 0 20 0;need 4 5;site 4 5 9 3;";

    public static void main(String[] args) {
        BoundariesTest test = new BoundariesTest();
        test.newObject();
        test.feedHighestFirst();
        test.feedBehind();
        test.feedTooMuch();
        test.endOfFirstBytes();
        test.endRefused();
        test.townTakesTheTape();
        test.townWithAFault();
        test.lawTakesTheTape();
        test.lawWithAFault();
        test.faultOfTheLatest();
        test.faultOfAnotherWhat();
        test.day();
        test.view();
        test.pull();
        test.pullRefused();
        test.stuff();
        test.set();
        test.setRefused();
        test.wall();
        test.sender();
        test.sees();
        test.ways();
        test.wayOfEachKind();
        test.wayRefused();
        test.howLate();
        test.compare();
        test.signal();
        test.heard();
        test.whatWasFoundIsForgotten();
        test.finish();
    }

    private void blanks(int due) {
        is(due, "feed", BLANKS, BLANKS, BLANKS, BLANKS, BLANKS);
    }

    private void newObject() {
        sentence("1: No WALLS, SENDERS, LAW; DAY 0, THE VIEW is NOW; no images.");
        row("count", new int[] {0, 0, 0, 0, 0, 0, 0, NONE, 0, 0, ABSENT});
        fault(0, NONE);
        is(ABSENT, "wall", 0, 0);
        is(ABSENT, "sender", 0, 0);
        no("sees", 0, 0, 0);
        is(NONE, "ways", 0, 0, 0);
        is(ABSENT, "way", 0, 0, 0, 0, 0);
        is(ABSENT, "compare", 0, 0, 0, 0, 0, 0);
        is(NONE, "signal", 0, 0, 0);
        is(0, "heard", 0, 0);
        is(NONE, "best", 0, 0);
        is(NONE, "served", 0);
        row("walk", new int[] {0, 0, 0, NONE});
        row("cover", new int[] {0, 0, 0, NONE});
        is(NONE, "serves", 0, 0);
        no("clash", 0, 1);
        is(NONE, "colour", 0);
        no("span", 0, 0, 1);
        is(441, "places");
        is(NONE, "echo", 0, 0, 0, 4, 0);
        is(NONE, "why", 0, 0);
        row("breach", new int[] {NONE, NONE, NONE});
        no("pull", 1, 0);
        no("pull", 0, 0);
        for (int k = 0; k < 3; k++) {
            no("again", k);
        }
        is(0, "end", 0);
        is(NONE, "end", 1);
        is(0, "town");
        is(0, "law");
    }

    private void feedHighestFirst() {
        sentence("2: twenty bytes come behind it, of each number the highest first");
        int[] signs = {0x23, 0x7f, 0x80, 0xff};
        for (int sign : signs) {
            for (int place = 0; place < 20; place++) {
                int[] numbers = {BLANKS, BLANKS, BLANKS, BLANKS, BLANKS};
                int shift = 24 - 8 * (place % 4);
                numbers[place / 4] = numbers[place / 4] & ~(255 << shift) | sign << shift;
                is(20, "feed", numbers);
                is(NONE, "town");
                is(place, "fault", 1);
            }
        }
        anew();
        is(20, "feed", 0x6e656564, 0x20313920, 0x30383b6e, 0x65656420, 0x37203b20);
        is(NONE, "town");
        fault(1, 18);
        is(20, "feed", 0x6e656564, 0x20313920, 0x30383b6e, 0x65656420, 0x3720383b);
        is(2, "town");
        is(20, "feed", -1, -1, -1, -1, -1);
        is(NONE, "law");
        fault(1, 0);
    }

    private void feedBehind() {
        sentence("2: twenty bytes come behind it .. how many it has");
        is(20, "feed", 0x6e656564, BLANKS, BLANKS, BLANKS, BLANKS);
        is(40, "feed", BLANKS, 0x20203120, BLANKS, BLANKS, BLANKS);
        is(60, "feed", 0x31203b20, BLANKS, BLANKS, BLANKS, BLANKS);
        is(1, "town");
        tape("nee");
        is(23, "feed", 0x64203120, 0x313b2020, BLANKS, BLANKS, BLANKS);
        is(1, "town");
        is(2, "count", 5);
    }

    private void feedTooMuch() {
        sentence("2: NONE, and nothing comes, if there would be more than 500.");
        for (int k = 1; k <= 25; k++) {
            blanks(20 * k);
        }
        is(NONE, "feed", 1, 2, 3, 4, 5);
        is(500, "end", 500);
        is(NONE, "end", 501);
        for (int left = 481; left <= 499; left += 6) {
            is(left, "end", left);
            is(NONE, "feed", 1, 2, 3, 4, 5);
            is(NONE, "end", left + 1);
            is(480, "end", 480);
            blanks(500);
        }
        is(NONE, "feed", 1, 2, 3, 4, 5);
        is(0, "town");
        fault(0, NONE);
        blanks(20);
    }

    private void endOfFirstBytes() {
        sentence("3: The tape has its first n bytes alone: n.");
        tape("need 1 1;need 2 2;");
        is(18, "end", 18);
        is(9, "end", 9);
        is(NONE, "end", 10);
        is(9, "end", 9);
        is(1, "town");
        is(1, "count", 5);
        tape("need 1 1;");
        is(0, "end", 0);
        is(0, "town");
        is(1, "count", 5);
        // What was cut off does not come back with what comes behind it.
        tape("need 1 1;");
        is(5, "end", 5);
        is(25, "feed", 0x3920393b, BLANKS, BLANKS, BLANKS, BLANKS);
        is(1, "town");
    }

    private void endRefused() {
        sentence("3: NONE if it has not so many, or n is below 0.");
        is(NONE, "end", 1);
        is(NONE, "end", -1);
        is(0, "end", 0);
        tape("need 1 1;");
        is(NONE, "end", 10);
        is(NONE, "end", -1);
        for (int far : FAR) {
            is(NONE, "end", far);
        }
        is(9, "end", 9);
        is(1, "town");
        for (int k = 1; k <= 25; k++) {
            blanks(20 * k);
        }
        is(NONE, "end", 501);
        is(500, "end", 500);
        is(499, "end", 499);
    }

    private void townTakesTheTape() {
        sentence("4: The tape is taken (and is empty then), as a TOWN: how many LINES.");
        is(0, "town");
        tape("need 1 1;need 2 2;");
        is(2, "town");
        is(0, "end", 0);
        is(NONE, "end", 1);
        is(0, "town");
        is(2, "count", 5);
        tape("nonsense");
        is(NONE, "town");
        is(NONE, "end", 1);
        is(0, "town");
        blanks(20);
    }

    private void townWithAFault() {
        sentence("4: NONE: a FAULT (nothing comes then).");
        town(4, SMALL);
        String[] bad = {"x", "need 1 21;", "wall 1 1 1 1 1;", times(8, "need 1 1;")};
        for (String last : bad) {
            town(NONE, "sender 1 1 1 1;wall 1 1 1 2 1;need 1 1;site 1 1 1 1;" + last);
            row("count", new int[] {1, 1, 1, 1, 1, 1});
            is(ABSENT, "wall", 1, 0);
            is(ABSENT, "sender", 1, 0);
            is(NONE, "serves", 1, 0);
            is(NONE, "serves", 0, 1);
            row("sender", new int[] {4, 5, 0, 9}, 0);
            row("wall", new int[] {0, 0, 0, 20}, 0);
        }
    }

    private void lawTakesTheTape() {
        sentence("5: The tape is taken (and is empty then), as LAW from now on: how many LINES.");
        is(0, "law");
        town(1, "sender 1 1 1 1;");
        tape("bar;may;");
        is(2, "law");
        is(NONE, "end", 1);
        is(2, "count", 8);
        is(0, "breach", 0);
        tape("may;");
        is(1, "law");
        is(1, "count", 8);
        is(NONE, "breach", 0);
        tape("bar;");
        is(1, "law");
        is(0, "law");
        is(0, "count", 8);
        is(NONE, "breach", 0);
        is(NONE, "why", 0, 0);
    }

    private void lawWithAFault() {
        sentence("5: NONE: a FAULT.");
        town(1, "sender 1 1 1 1;");
        law(2, "if x=2:may;bar;");
        String[] bad = {"may;may;may;x", times(17, "may;"), "if x=1 and x=1 and x=1 and x=1 and x=1:may;", "may"};
        for (String text : bad) {
            law(NONE, text);
            is(NONE, "end", 1);
            is(2, "count", 8);
            is(1, "why", 0, 0);
            is(0, "breach", 0);
        }
    }

    private void faultOfTheLatest() {
        sentence("6: Of the latest town() or law(), what 0: the FAULT, 0 without, 1: its place, NONE without.");
        fault(0, NONE);
        town(NONE, "need 1 21;");
        fault(2, 7);
        law(NONE, times(17, "may;"));
        fault(5, 64);
        town(1, "need 1 1;");
        fault(0, NONE);
        law(NONE, " x");
        fault(1, 1);
        tape("need");
        is(NONE, "end", 99);
        yes("day", 3);
        is(NONE, "step", 21, 0);
        fault(1, 1);
        is(NONE, "town");
        fault(1, 4);
        law(1, "may;");
        fault(0, NONE);
        town(NONE, "x");
        fault(1, 0);
    }

    private void faultOfAnotherWhat() {
        sentence("6: NONE for another what.");
        town(NONE, "need 1 21;");
        is(NONE, "fault", 2);
        is(NONE, "fault", -1);
        for (int far : FAR) {
            is(NONE, "fault", far);
        }
    }

    private void day() {
        sentence("7: The DAY of now: true; false: it is earlier than it was, or above 999.");
        no("day", -1);
        yes("day", 0);
        yes("day", 1);
        yes("day", 7);
        yes("day", 7);
        no("day", 6);
        no("day", 0);
        no("day", 1000);
        is(7, "count", 6);
        for (int far : FAR) {
            no("day", far);
        }
        is(7, "count", 6);
        yes("day", 999);
        no("day", 998);
        yes("day", 999);
        is(999, "count", 6);
    }

    private void view() {
        sentence("8: THE VIEW is a DAY (NONE: NOW): true; false: it is later than now, or none.");
        yes("view", 0);
        is(0, "count", 7);
        no("view", 1);
        no("view", -2);
        is(0, "count", 7);
        yes("day", 4);
        is(0, "count", 7);
        yes("view", 4);
        no("view", 5);
        no("view", 1000);
        for (int far : FAR) {
            no("view", far);
        }
        is(4, "count", 7);
        yes("view", 0);
        yes("view", NONE);
        is(NONE, "count", 7);
        yes("view", NONE);
        yes("view", 3);
        is(3, "count", 7);
    }

    private void pull() {
        sentence("9: A WALL is pulled down on the DAY of now, or (wall false) a SENDER: true");
        town(4, "wall 0 0 0 1 0;wall 0 0 0 1 0;sender 1 1 1 1;sender 1 1 1 1;");
        yes("pull", 1, 1);
        is(0, "wall", 1, 6);
        is(NONE, "wall", 0, 6);
        is(NONE, "sender", 1, 5);
        yes("day", 9);
        // Whatever THE VIEW is, it is on the day of now.
        yes("view", 3);
        yes("pull", 0, 0);
        is(9, "sender", 0, 5);
        is(NONE, "sender", 1, 5);
        is(NONE, "wall", 0, 6);
        is(2, "count", 1);
        yes("view", NONE);
        is(1, "count", 1);
        yes("pull", 1, 0);
        yes("pull", 0, 1);
        row("count", new int[] {0, 0, 2, 2});
    }

    private void pullRefused() {
        sentence("9: false: there is none such, or it is.");
        town(3, "wall 0 0 0 1 0;sender 1 1 1 1;sender 1 1 1 1;");
        no("pull", 1, 1);
        no("pull", 0, 2);
        for (int kind = 0; kind < 2; kind++) {
            no("pull", kind, -1);
            no("pull", kind, 12);
            for (int far : FAR) {
                no("pull", kind, far);
            }
        }
        row("count", new int[] {1, 2, 1, 2});
        yes("day", 2);
        yes("pull", 1, 0);
        yes("pull", 0, 1);
        no("pull", 1, 0);
        no("pull", 0, 1);
        yes("day", 5);
        no("pull", 1, 0);
        no("pull", 0, 1);
        yes("view", 1);
        no("pull", 1, 0);
        is(2, "wall", 0, 6);
        is(2, "sender", 1, 5);
    }

    private void stuff() {
        sentence("10: BACK and THROUGH of a STUFF from now on: true; false: there is none such, or other numbers.");
        // At (1, 0) by sight 4000, by the mirror 1000; at (3, 0) over the wall at 2 4000 / 4.
        town(3, "sender 1 0 0 4;wall 0 0 0 5 4;wall 2 0 2 5 3;");
        yes("stuff", 3, 0, 0);
        int[][] good = {{0, 0}, {1, 1}, {99, 99}, {100, 100}, {0, 100}, {100, 0}};
        for (int[] numbers : good) {
            yes("stuff", 4, numbers[0], 0);
            yes("stuff", 3, 0, numbers[1]);
            is(4000 + 10 * numbers[0], "signal", 0, 1, 0);
            yes("stuff", 4, 0, 0);
            is(10 * numbers[1], "signal", 0, 3, 0);
        }
        yes("stuff", 4, 30, 0);
        yes("stuff", 3, 0, 40);
        int[][] bad = {{-1, 1, 1}, {5, 1, 1}, {3, -1, 1}, {3, 101, 1}, {3, 1, -1}, {3, 1, 101}, {4, 1, 101}, {4, 101, 1}};
        for (int[] numbers : bad) {
            no("stuff", numbers);
        }
        for (int far : FAR) {
            no("stuff", far, 1, 1);
            no("stuff", 3, far, 1);
            no("stuff", 3, 1, far);
        }
        is(4300, "signal", 0, 1, 0);
        // By sight 1000, and from wall 0 4000 / 16 by 30, both by 40.
        is(400 + 30, "signal", 0, 3, 0);
        yes("stuff", 0, 100, 100);
        is(4300, "signal", 0, 1, 0);
    }

    private void set() {
        sentence("11: What 0: DEPTH, 1: BEND, 2: NOISE, 3: SHARE, 4: LEAST, 5: MARGIN, 6: HOLD from now on: true");
        int[] low = {0, 0, 0, 0, 1, 0, 1};
        int[] high = {2, 100, 9999, 9999, 9999, 999, 9};
        for (int what = 0; what < low.length; what++) {
            yes("set", what, low[what]);
            yes("set", what, high[what]);
            yes("set", what, (low[what] + high[what]) / 2);
        }
    }

    private void setRefused() {
        sentence("11: false: another what, or number.");
        int[] low = {0, 0, 0, 0, 1, 0, 1};
        int[] high = {2, 100, 9999, 9999, 9999, 999, 9};
        for (int what = 0; what < low.length; what++) {
            no("set", what, low[what] - 1);
            no("set", what, high[what] + 1);
            for (int far : FAR) {
                no("set", what, far);
            }
        }
        no("set", -1, 1);
        no("set", 7, 1);
        for (int far : FAR) {
            no("set", far, 1);
        }
        // All are as at first: one mirror, no corners, a noise of 1, all of it, 10 of a signal, a tenth more, at once.
        town(6, "sender 4 5 0 10;wall 0 0 0 20 0;wall 10 0 10 20 0;need 4 15;site 4 5 1 1;sender 4 6 1 11;");
        is(3, "ways", 0, 6, 5);
        is(0, "ways", 0, 12, 5);
        is(1, "cover", 2);
    }

    private void wall() {
        sentence("12: -2 if there is none such, or for another what.");
        yes("day", 6);
        town(2, "wall 3 7 3 5 2;wall 9 1 8 1 4;");
        yes("pull", 1, 1);
        yes("view", 1);
        row("wall", new int[] {3, 5, 3, 7, 2, 6, NONE, ABSENT, ABSENT}, 0);
        row("wall", new int[] {8, 1, 9, 1, 4, 6, 6, ABSENT, ABSENT}, 1);
        is(ABSENT, "wall", 0, -1);
        is(ABSENT, "wall", 2, 0);
        is(ABSENT, "wall", -1, 0);
        is(ABSENT, "wall", 12, 6);
        for (int far : FAR) {
            is(ABSENT, "wall", far, 0);
            is(ABSENT, "wall", 0, far);
        }
    }

    private void sender() {
        sentence("13: -2 if there is none such, or for another what.");
        yes("day", 6);
        town(2, "sender 3 7 5 2;sender 9 1 0 9999;");
        yes("pull", 0, 1);
        yes("view", 1);
        yes("span", 0, 3, 4);
        row("sender", new int[] {3, 7, 5, 2, 6, NONE, ABSENT, ABSENT, ABSENT}, 0);
        row("sender", new int[] {9, 1, 0, 9999, 6, 6, ABSENT, ABSENT, ABSENT}, 1);
        is(ABSENT, "sender", 0, -1);
        is(ABSENT, "sender", 2, 0);
        is(ABSENT, "sender", -1, 0);
        is(ABSENT, "sender", 6, 5);
        for (int far : FAR) {
            is(ABSENT, "sender", far, 0);
            is(ABSENT, "sender", 0, far);
        }
    }

    private void sees() {
        sentence("14: Whether KIND 0 from a SENDER to a POINT is not BARRED. False, too, if there is none such.");
        town(2, "sender 4 5 0 9;wall 6 0 6 9 0;");
        yes("sees", 0, 6, 5);
        no("sees", 0, 7, 5);
        no("sees", 1, 4, 5);
        no("sees", -1, 4, 5);
        no("sees", 6, 4, 5);
        no("sees", 0, 21, 5);
        no("sees", 0, 4, -1);
        for (int far : FAR) {
            no("sees", far, 4, 5);
            no("sees", 0, far, 5);
            no("sees", 0, 4, far);
        }
        // By a mirror and round a corner it is not seen.
        town(1, "wall 0 0 0 20 0;");
        yes("set", 1, 100);
        no("sees", 0, 7, 8);
        yes("pull", 0, 0);
        no("sees", 0, 6, 5);
    }

    private void ways() {
        sentence("15: How many WAYS there are. NONE: there is none such.");
        town(2, "sender 4 5 0 9;wall 6 0 6 9 0;");
        is(0, "ways", 0, 7, 5);
        is(2, "ways", 0, 4, 5);
        is(NONE, "ways", 1, 4, 5);
        is(NONE, "ways", -1, 4, 5);
        is(NONE, "ways", 6, 4, 5);
        is(NONE, "ways", 0, 21, 5);
        is(NONE, "ways", 0, 4, -1);
        for (int far : FAR) {
            is(NONE, "ways", far, 4, 5);
            is(NONE, "ways", 0, far, 5);
            is(NONE, "ways", 0, 4, far);
        }
        // The most: by sight, by each of twelve, by each two on unlike sides.
        anew();
        town(13, "sender 4 5 0 1;" + times(6, "wall 0 0 0 9 0;wall 10 0 10 9 0;"));
        yes("set", 0, 2);
        is(1 + 12 + 72, "ways", 0, 6, 5);
        way(0, 6, 5, 84, 2, 11, 10, 484, 0, 0, 2200);
        is(ABSENT, "way", 0, 6, 5, 85, 0);
    }

    private void wayOfEachKind() {
        sentence("16: 1: the first WALL (NONE of KIND 0), 2: the second one, or the CORNER's end (else NONE), 4: B (else 0)");
        town(3, "sender 4 5 0 324;wall 0 0 0 20 0;wall 10 0 10 20 0;");
        yes("set", 0, 2);
        way(0, 6, 5, 0, 0, NONE, NONE, 4, 0, 81000, 200, ABSENT);
        way(0, 6, 5, 1, 1, 0, NONE, 100, 0, 1620, 1000, ABSENT);
        way(0, 6, 5, 2, 1, 1, NONE, 100, 0, 1620, 1000, ABSENT);
        way(0, 6, 5, 3, 2, 0, 1, 324, 0, 250, 1800, ABSENT);
        way(0, 6, 5, 4, 2, 1, 0, 484, 0, 167, 2200, ABSENT);
        way(0, 6, 5, 5, ABSENT, ABSENT, ABSENT, ABSENT, ABSENT, ABSENT, ABSENT, ABSENT);
        anew();
        town(2, "sender 2 5 0 100;wall 5 3 5 9 0;");
        yes("set", 1, 50);
        way(0, 8, 5, 0, 3, 0, 0, 13, 13, 961, 720, ABSENT);
        way(0, 8, 5, 1, 3, 0, 1, 25, 25, 500, 1000, ABSENT);
    }

    private void wayRefused() {
        sentence("16: -2 if there is none such, or for another what.");
        town(2, "sender 4 5 0 9;wall 0 0 0 9 0;");
        is(0, "way", 0, 6, 5, 0, 0);
        is(1, "way", 0, 6, 5, 1, 0);
        is(ABSENT, "way", 0, 6, 5, 2, 0);
        is(ABSENT, "way", 0, 6, 5, -1, 0);
        is(ABSENT, "way", 0, 6, 5, 0, 7);
        is(ABSENT, "way", 0, 6, 5, 0, -1);
        is(ABSENT, "way", 1, 6, 5, 0, 0);
        is(ABSENT, "way", -1, 6, 5, 0, 0);
        is(ABSENT, "way", 0, 21, 5, 0, 0);
        is(ABSENT, "way", 0, 6, -1, 0, 0);
        for (int far : FAR) {
            is(ABSENT, "way", far, 6, 5, 0, 0);
            is(ABSENT, "way", 0, far, 5, 0, 0);
            is(ABSENT, "way", 0, 6, far, 0, 0);
            is(ABSENT, "way", 0, 6, 5, far, 0);
            is(ABSENT, "way", 0, 6, 5, 0, far);
        }
        town(1, "wall 5 0 5 20 0;");
        is(ABSENT, "way", 0, 6, 5, 0, 0);
        yes("pull", 0, 0);
        is(ABSENT, "way", 0, 4, 5, 0, 0);
    }

    private void howLate() {
        sentence("16: 6: how late: 100 * its root, cut (of KIND 3 of both, cut each, together)");
        town(1, "sender 0 0 0 9;");
        int[][] due = {{0, 0, 0}, {1, 0, 100}, {1, 1, 141}, {1, 2, 223}, {2, 2, 282}, {3, 4, 500}, {20, 20, 2828}, {1, 20, 2002}};
        for (int[] d : due) {
            is(d[2], "way", 0, d[0], d[1], 0, 6);
        }
        for (int place = 0; place < 21 * 21; place++) {
            int square = place % 21 * (place % 21) + place / 21 * (place / 21);
            is(BigInteger.valueOf(10000L * square).sqrt().intValue(), "way", 0, place % 21, place / 21, 0, 6);
        }
        // Twice 223.6 are 447.2, twice 412.3 are 824.6.
        anew();
        town(2, "sender 2 5 0 9;wall 3 1 3 7 0;");
        yes("set", 1, 50);
        is(223 + 223, "way", 0, 4, 5, 0, 6);
        is(412 + 412, "way", 0, 4, 5, 1, 6);
        // 141.4 and 223.6 are 365.0 together.
        anew();
        town(2, "sender 2 5 0 9;wall 3 4 3 9 0;");
        yes("set", 1, 50);
        way(0, 5, 5, 0, 3, 0, 0, 2, 5);
        is(141 + 223, "way", 0, 5, 5, 0, 6);
    }

    private void compare() {
        sentence("17: less (-1), as much (0), or more (1) .. -2 if there are none such.");
        town(3, "sender 4 5 0 9;sender 6 5 0 9;wall 0 0 0 9 0;");
        // To (6, 5): 2 and 10 of sender 0, 0 and 12 of sender 1.
        is(-1, "compare", 0, 0, 0, 1, 6, 5);
        is(1, "compare", 0, 1, 0, 0, 6, 5);
        is(0, "compare", 0, 1, 0, 1, 6, 5);
        is(1, "compare", 0, 0, 1, 0, 6, 5);
        is(-1, "compare", 1, 0, 0, 0, 6, 5);
        is(-1, "compare", 0, 1, 1, 1, 6, 5);
        is(1, "compare", 1, 1, 0, 1, 6, 5);
        is(0, "compare", 0, 0, 1, 0, 5, 5);
        int[][] bad = {{2, 0, 0, 0, 6, 5}, {0, 0, 2, 0, 6, 5}, {-1, 0, 0, 0, 6, 5}, {0, 0, -1, 0, 6, 5}, {0, 2, 0, 0, 6, 5},
            {0, 0, 0, 2, 6, 5}, {0, -1, 0, 0, 6, 5}, {0, 0, 0, -1, 6, 5}, {0, 0, 0, 0, 21, 5}, {0, 0, 0, 0, 6, -1}};
        for (int[] numbers : bad) {
            is(ABSENT, "compare", numbers);
        }
        for (int far : FAR) {
            for (int k = 0; k < 6; k++) {
                int[] numbers = {0, 0, 1, 0, 6, 5};
                numbers[k] = far;
                is(ABSENT, "compare", numbers);
            }
        }
        yes("pull", 0, 1);
        is(ABSENT, "compare", 0, 0, 1, 0, 6, 5);
        is(ABSENT, "compare", 1, 0, 0, 0, 6, 5);
    }

    private void signal() {
        sentence("18: SIGNAL. NONE: there is none such.");
        town(2, "sender 4 5 0 9;wall 6 0 6 9 0;");
        is(0, "signal", 0, 7, 5);
        is(9000 + 180, "signal", 0, 3, 5);
        is(NONE, "signal", 1, 4, 5);
        is(NONE, "signal", -1, 4, 5);
        is(NONE, "signal", 6, 4, 5);
        is(NONE, "signal", 0, -1, 5);
        is(NONE, "signal", 0, 4, 21);
        for (int far : FAR) {
            is(NONE, "signal", far, 4, 5);
            is(NONE, "signal", 0, far, 5);
            is(NONE, "signal", 0, 4, far);
        }
        yes("pull", 0, 0);
        is(NONE, "signal", 0, 7, 5);
    }

    private void heard() {
        sentence("19: Which SENDERS are HEARD at a POINT, as bits. NONE: there is no such POINT.");
        is(0, "heard", 20, 20);
        town(6, "sender 0 0 0 9;sender 0 0 1 9;sender 0 0 2 9;sender 0 0 3 9;sender 0 0 4 9;sender 0 0 5 9;");
        is(63, "heard", 1, 0);
        yes("pull", 0, 0);
        is(62, "heard", 1, 0);
        yes("pull", 0, 5);
        is(30, "heard", 1, 0);
        is(NONE, "heard", 21, 0);
        is(NONE, "heard", 0, 21);
        is(NONE, "heard", -1, 0);
        is(NONE, "heard", 0, -1);
        for (int far : FAR) {
            is(NONE, "heard", far, 0);
            is(NONE, "heard", 0, far);
        }
    }

    private void whatWasFoundIsForgotten() {
        sentence("from now on [what was asked ahead does not stay]");
        town(4, "sender 1 0 0 4;wall 0 0 0 5 0;need 1 0;site 1 0 4 1;");
        all(2, 4500);
        yes("stuff", 0, 100, 0);
        all(2, 5000);
        yes("set", 0, 0);
        all(1, 4000);
        yes("set", 0, 1);
        all(2, 5000);
        yes("image", 0);
        yes("day", 1);
        yes("pull", 1, 0);
        all(1, 4000);
        yes("view", 0);
        all(2, 5000);
        town(1, "wall 3 0 3 5 0;");
        all(2, 5000);
        yes("view", NONE);
        all(2, 4250);
        yes("again", 0);
        all(2, 5000);
        town(1, "wall 3 0 3 5 0;");
        all(3, 5250);
        anew();
        town(2, "sender 1 2 0 4;wall 2 0 2 5 0;");
        is(0, "ways", 0, 3, 2);
        yes("set", 1, 100);
        is(2, "ways", 0, 3, 2);
        // Nor does what was asked of another place, or of a site, come to the first one.
        anew();
        town(3, "sender 0 2 0 4;need 0 9;site 0 1 4 1;");
        way(0, 0, 0, 0, 0, NONE, NONE, 4);
        is(160, "signal", 0, 0, 7);
        way(0, 0, 0, 0, 0, NONE, NONE, 4);
        is(62, "serves", 0, 0);
        way(0, 0, 0, 0, 0, NONE, NONE, 4);
        way(0, 5, 2, 0, 0, NONE, NONE, 25);
        is(4000, "signal", 0, 1, 2);
        way(0, 5, 2, 0, 0, NONE, NONE, 25);
    }

    private void all(int ways, int signal) {
        is(ways, "ways", 0, 1, 0);
        is(signal, "signal", 0, 1, 0);
        is(signal, "serves", 0, 0);
        is(ways == 1 ? ABSENT : 1, "way", 0, 1, 0, 1, 0);
    }
}
