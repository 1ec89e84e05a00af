/** One test for each promise, with answers that were reckoned by hand from the document. */
public final class PromisesTest {
    private static final int LEAST_INT = Integer.MIN_VALUE;
    private static final int MOST_INT = Integer.MAX_VALUE;
    private static final Checks CHECKS = new Checks();

    public static void main(String[] args) {
        newObject();
        feed();
        end();
        town();
        law();
        townFaults();
        lawFaults();
        day();
        view();
        pull();
        stuff();
        set();
        wall();
        sender();
        sees();
        ways();
        way();
        order();
        strengths();
        compare();
        signal();
        heard();
        best();
        step();
        served();
        walk();
        cover();
        serves();
        clash();
        colour();
        span();
        places();
        echo();
        why();
        breach();
        count();
        images();
        CHECKS.finish();
    }

    private static void due(String call, long got, long want) {
        CHECKS.due(call, got, want);
    }

    private static void due(String call, boolean got, boolean want) {
        CHECKS.due(call, got, want);
    }

    private static StreetWaves told(String text) {
        return Checks.told(text);
    }

    // 1
    private static void newObject() {
        StreetWaves w = new StreetWaves();
        int[] counts = {0, 0, 0, 0, 0, 0, 0, -1, 0, 0};
        for (int what = 0; what < counts.length; what++) {
            due("1: count " + what, w.count(what), counts[what]);
        }
        due("1: fault", w.fault(0), 0);
        due("1: its place", w.fault(1), -1);
        due("1: walk", w.walk(0), 0);
        for (int k = 0; k < 3; k++) {
            due("1: no image", w.again(k), false);
        }
        due("1: the tape is empty", w.end(1), -1);
        due("1: NONE", StreetWaves.NONE, -1);
    }

    // 2
    private static void feed() {
        StreetWaves w = new StreetWaves();
        for (int k = 1; k <= 25; k++) {
            due("2: feed", w.feed(0x20202020, 0x20202020, 0x20202020, 0x20202020, 0x20202020), 20 * k);
        }
        due("2: more than 500", w.feed(0, 0, 0, 0, 0), -1);
        due("2: nothing came", w.end(500), 500);
        due("2: nor more", w.end(501), -1);
        due("2: blanks are a town", w.town(), 0);
        w.feed(0x6e656564, 0x20332037, 0x3b202020, 0x20202020, 0x2020200a);
        due("2: the highest byte first", w.town(), 1);
        w.feed(0x20202020, 0x20202020, 0x2020ff20, 0x20202020, 0x20202020);
        due("2: a high byte", w.town(), -1);
        due("2: its place", w.fault(1), 10);
        for (int k = 0; k < 25; k++) {
            w.feed(1, 2, 3, 4, 5);
        }
        w.end(481);
        due("2: 501 bytes are too many", w.feed(0, 0, 0, 0, 0), -1);
        w.end(480);
        due("2: 500 bytes are not", w.feed(0, 0, 0, 0, 0), 500);
    }

    // 3
    private static void end() {
        StreetWaves w = new StreetWaves();
        due("3: end of nothing", w.end(0), 0);
        due("3: not so many", w.end(1), -1);
        w.feed(0x6e656564, 0x20312031, 0x3b6e6565, 0x64203120, 0x323b2020);
        due("3: below 0", w.end(-1), -1);
        due("3: far below 0", w.end(LEAST_INT), -1);
        due("3: far above", w.end(MOST_INT), -1);
        due("3: 21 of 20", w.end(21), -1);
        due("3: 20 of 20", w.end(20), 20);
        due("3: 9 of 20", w.end(9), 9);
        due("3: the others are gone", w.end(10), -1);
        due("3: the first are there", w.town(), 1);
        Checks.feed(w, "need 1 ");
        due("3: more comes behind", w.feed(0x323b0000, 0, 0, 0, 0), 27);
        w.end(9);
        due("3: as one text", w.town(), 1);
    }

    // 4
    private static void town() {
        StreetWaves w = new StreetWaves();
        due("4: nothing", w.town(), 0);
        w.day(7);
        due("4: lines", Checks.town(w, "wall 9 8 2 8 4;sender 0 20 5 9999;need 20 0;site 1 2 9999 999;\nneed 5 5 ; "), 5);
        due("4: the tape is empty", w.end(1), -1);
        due("4: walls", w.count(2), 1);
        due("4: senders", w.count(3), 1);
        due("4: sites", w.count(4), 1);
        due("4: needs", w.count(5), 2);
        due("4: its day", w.wall(0, 5), 7);
        due("4: the sender's day", w.sender(0, 4), 7);
        due("4: a fault", Checks.town(w, "need 1 1;wall 0 0 1 0 0;sender 1 1 1 1;site 1 1 1 1;need 1 21;"), -1);
        due("4: the tape is empty", w.end(1), -1);
        due("4: no wall came", w.count(2), 1);
        due("4: no sender came", w.count(3), 1);
        due("4: no site came", w.count(4), 1);
        due("4: no need came", w.count(5), 2);
        due("4: words and numbers without blanks", Checks.town(w, "need7 007;wall0 0 0 0009 2;"), 2);
        due("4: leading zeros", w.wall(1, 3), 9);
        w = new StreetWaves();
        StringBuilder walls = new StringBuilder();
        for (int k = 0; k < 12; k++) {
            walls.append("wall ").append(k).append(" 0 ").append(k).append(" 5 0;");
        }
        due("4: twelve walls", Checks.town(w, walls.toString()), 12);
        w.pull(true, 0);
        due("4: a thirteenth in all", Checks.town(w, "wall 0 0 1 0 0;"), -1);
        due("4: its fault", w.fault(0), 4);
    }

    // 5
    private static void law() {
        StreetWaves w = told("sender 1 2 3 4;");
        due("5: nothing", w.law(), 0);
        due("5: two lines", Checks.law(w, "may;if not alone and x<1:bar;"), 2);
        due("5: the tape is empty", w.end(1), -1);
        due("5: so many", w.count(8), 2);
        due("5: a fault", Checks.law(w, "bar"), -1);
        due("5: the tape is empty", w.end(1), -1);
        due("5: the law stays", w.count(8), 2);
        due("5: as it was", w.breach(0), -1);
        due("5: another law", Checks.law(w, "bar;"), 1);
        due("5: in its place", w.breach(0), 0);
        due("5: sixteen lines of four tests",
                Checks.law(w, "may;bar;may;bar;may;bar;may;bar;may;bar;may;bar;may;bar;may;"
                        + "if alone and not alone and x>3 and hour=9999:bar;"), 16);
        due("5: no law", w.law(), 0);
        due("5: none of it stays", w.count(8), 0);
    }

    // 4 and 6
    private static void townFaults() {
        String nine = "need 1 1;need 1 1;need 1 1;need 1 1;need 1 1;need 1 1;need 1 1;need 1 1;need 1 1;";
        townFault("", 0, -1);
        townFault(" \n ", 0, -1);
        townFault("need", 1, 4);
        townFault("need  ", 1, 6);
        townFault("nee", 1, 0);
        townFault("needs 1 1;", 1, 0);
        townFault("Need 1 1;", 1, 0);
        townFault("need 1 1", 1, 8);
        townFault("need 1 1:", 1, 8);
        townFault("need 1 1 1;", 1, 9);
        townFault("need 1;", 1, 6);
        townFault("need 1 1;;", 1, 9);
        townFault("need 12345 1;", 1, 5);
        townFault("need 1 1;12345", 1, 9);
        townFault("need 1\t1;", 1, 6);
        townFault("need 1 1;#", 1, 9);
        townFault("need 99 1;#", 1, 10);
        townFault("need 99 99;", 2, 5);
        townFault("need 20 21;", 2, 8);
        townFault("need 9999 0;", 2, 5);
        townFault("wall 0 0 0 0 0;", 3, 0);
        townFault(" wall 0 0 1 1 0;", 3, 1);
        townFault("wall 0 0 1 1 9;", 3, 0);
        townFault("wall 0 0 0 1 5;", 2, 13);
        townFault("wall 30 0 30 1 5;", 2, 5);
        townFault("sender 1 1 6 1;", 2, 11);
        townFault("sender 1 1 5 0;", 2, 13);
        townFault("site 1 1 0 1;", 2, 9);
        townFault("site 1 1 1 0;", 2, 11);
        townFault("site 1 1 1 1000;", 2, 11);
        townFault("site 1 1 9999 999;", 0, -1);
        townFault(nine, 4, 72);
        townFault(nine + "need 1 99;", 4, 72);
        townFault("need 1 99;" + nine, 2, 7);
        townFault(nine.substring(9) + "need 1 99;", 4, 72);
        townFault(nine + "x", 1, 81);
        townFault("sender 1 1 1 1;sender 1 1 1 1;sender 1 1 1 1;sender 1 1 1 1;sender 1 1 1 1;sender 1 1 1 1;sender 1 1 1 1;", 4, 90);
        townFault("site 1 1 1 1;site 1 1 1 1;site 1 1 1 1;site 1 1 1 1;site 1 1 1 1;site 1 1 1 1;site 1 1 1 1;site 1 1 1 1;site 1 1 1 1;",
                4, 104);
        StringBuilder walls = new StringBuilder();
        for (int k = 0; k < 12; k++) {
            walls.append("wall 0 0 0 5 0;");
        }
        townFault(walls.toString(), 0, -1);
        townFault(walls + "wall 0 0 0 5 0;", 4, 180);
        townFault(walls + "wall 0 0 5 5 0;", 3, 180);
    }

    private static void townFault(String text, int fault, int place) {
        StreetWaves w = new StreetWaves();
        int lines = Checks.town(w, text);
        due("4: NONE with a fault alone, '" + text + "'", lines == -1, fault != 0);
        due("6: fault of '" + text + "'", w.fault(0), fault);
        due("6: place of '" + text + "'", w.fault(1), place);
        due("6: another what", w.fault(2), -1);
        due("6: another what", w.fault(-1), -1);
        w.town();
        due("6: the latest", w.fault(0), 0);
        due("6: its place", w.fault(1), -1);
    }

    // 5 and 6
    private static void lawFaults() {
        String sixteen = "may;may;may;may;may;may;may;may;may;may;may;may;may;may;may;may;";
        lawFault("", 0, -1);
        lawFault(sixteen, 0, -1);
        lawFault(sixteen + " if x=1:may;", 5, 65);
        lawFault(sixteen + "may", 1, 67);
        lawFault("may", 1, 3);
        lawFault("maybe;", 1, 0);
        lawFault("if:bar;", 1, 2);
        lawFault("if alone bar;", 1, 9);
        lawFault("if alone=1:bar;", 1, 8);
        lawFault("if x:bar;", 1, 4);
        lawFault("if x==1:bar;", 1, 5);
        lawFault("if x=12345:bar;", 1, 5);
        lawFault("if x=1 and:bar;", 1, 10);
        lawFault("if x=1:bar;and", 1, 11);
        lawFault("if not not alone:bar;", 1, 7);
        lawFault("if x=1:if y=1:bar;", 1, 7);
        lawFault("wall 0 0 0 1 1;", 1, 0);
        lawFault("if hour=9999 and not power>0:bar;", 0, -1);
        lawFault("if alone and alone and alone and alone:may;", 0, -1);
        lawFault("if alone and alone and alone and alone and not x=1:may;", 5, 43);
        lawFault("if x=1 and x=1 and x=1 and x=1 and x=1 and x=1:may;" + sixteen, 5, 35);
        lawFault(sixteen + "if x=1 and x=1 and x=1 and x=1 and x=1:may;", 5, 64);
    }

    private static void lawFault(String text, int fault, int place) {
        StreetWaves w = new StreetWaves();
        int lines = Checks.law(w, text);
        due("5: NONE with a fault alone, '" + text + "'", lines == -1, fault != 0);
        due("6: fault of '" + text + "'", w.fault(0), fault);
        due("6: place of '" + text + "'", w.fault(1), place);
    }

    // 7
    private static void day() {
        StreetWaves w = new StreetWaves();
        due("7: before 0", w.day(-1), false);
        due("7: the same", w.day(0), true);
        due("7: later", w.day(5), true);
        due("7: it is", w.count(6), 5);
        due("7: earlier", w.day(4), false);
        due("7: above 999", w.day(1000), false);
        due("7: it stays", w.count(6), 5);
        due("7: the last", w.day(999), true);
        due("7: far", w.day(MOST_INT), false);
    }

    // 8, with the terms of what is told by a day and pulled down by then
    private static void view() {
        StreetWaves w = told("sender 0 0 0 1;wall 2 0 2 5 0;");
        w.day(3);
        Checks.town(w, "wall 4 0 4 5 0;sender 0 1 0 1;");
        w.day(5);
        w.pull(true, 0);
        w.pull(false, 0);
        int[][] standing = {{1, 1}, {1, 1}, {1, 1}, {2, 2}, {2, 2}, {1, 1}};
        for (int day = 0; day < standing.length; day++) {
            due("8: view " + day, w.view(day), true);
            due("8: count 7", w.count(7), day);
            due("8: walls by " + day, w.count(0), standing[day][0]);
            due("8: senders by " + day, w.count(1), standing[day][1]);
            due("8: in all", w.count(2) * 10 + w.count(3), 22);
        }
        due("8: later than now", w.view(6), false);
        due("8: none", w.view(-2), false);
        due("8: it stays", w.count(7), 5);
        due("8: a day of old", w.view(4), true);
        w.day(9);
        due("8: stays with the days", w.count(7), 4);
        due("8: sends by then", w.ways(0, 0, 0) > 0, true);
        due("8: now", w.view(-1), true);
        due("8: sends no more", w.ways(0, 0, 0), -1);
        due("8: the other one does", w.ways(1, 0, 1) > 0, true);
        w.view(2);
        due("8: not yet told", w.ways(1, 0, 1), -1);
        due("8: a wall of then", w.sees(0, 3, 1), false);
        due("8: a wall not yet told", w.sees(0, 2, 1), true);
        Checks.town(w, "wall 1 0 1 5 0;");
        due("8: what is told now is of now", w.wall(2, 5), 9);
        due("8: and not seen then", w.count(0), 1);
    }

    // 9
    private static void pull() {
        StreetWaves w = told("sender 0 0 0 1;wall 2 0 2 5 0;wall 4 0 4 5 0;");
        w.day(3);
        due("9: none such", w.pull(true, 2), false);
        due("9: none such", w.pull(true, -1), false);
        due("9: none such", w.pull(false, 1), false);
        w.view(0);
        due("9: a wall, whatever the view", w.pull(true, 1), true);
        w.view(-1);
        due("9: its day", w.wall(1, 6), 3);
        due("9: the other one stands", w.wall(0, 6), -1);
        w.day(4);
        due("9: once more", w.pull(true, 1), false);
        due("9: its day stays", w.wall(1, 6), 3);
        due("9: a sender", w.pull(false, 0), true);
        due("9: its day", w.sender(0, 5), 4);
        due("9: once more", w.pull(false, 0), false);
        due("9: seen no more", w.count(0) * 10 + w.count(1), 10);
    }

    // 10
    private static void stuff() {
        StreetWaves w = told("sender 0 0 0 4;wall 1 0 1 5 4;");
        due("10: 50 and 0 at first", w.signal(0, 0, 0), 4000 + 500);
        due("10: 0 at first", w.signal(0, 2, 0), 0);
        due("10: set", w.stuff(4, 100, 30), true);
        due("10: back", w.signal(0, 0, 0), 4000 + 1000);
        due("10: through", w.signal(0, 2, 0), 300);
        int[][] bad = {{-1, 0, 0}, {5, 0, 0}, {4, -1, 0}, {4, 101, 0}, {4, 0, -1}, {4, 0, 101}, {LEAST_INT, 0, 0}};
        for (int[] b : bad) {
            due("10: none such", w.stuff(b[0], b[1], b[2]), false);
        }
        due("10: nothing changed", w.signal(0, 0, 0) + w.signal(0, 2, 0), 5300);
        due("10: the least", w.stuff(0, 0, 0), true);
        due("10: the greatest", w.stuff(4, 100, 100), true);
        due("10: all through", w.signal(0, 2, 0), 1000);
    }

    // 11
    private static void set() {
        StreetWaves w = new StreetWaves();
        int[] low = {0, 0, 0, 0, 1, 0, 1};
        int[] high = {2, 100, 9999, 9999, 9999, 999, 9};
        for (int what = 0; what < low.length; what++) {
            due("11: below, " + what, w.set(what, low[what] - 1), false);
            due("11: least, " + what, w.set(what, low[what]), true);
            due("11: greatest, " + what, w.set(what, high[what]), true);
            due("11: above, " + what, w.set(what, high[what] + 1), false);
        }
        due("11: another what", w.set(-1, 1), false);
        due("11: another what", w.set(7, 1), false);
        w = told("sender 1 1 0 1;wall 0 0 0 5 0;");
        w.stuff(0, 100, 0);
        due("11: DEPTH is 1 at first", w.signal(0, 1, 1), 1000 + 250);
        w.set(0, 3);
        due("11: nothing changed", w.signal(0, 1, 1), 1250);
        w.set(0, 0);
        due("11: DEPTH", w.signal(0, 1, 1), 1000);
    }

    // 12
    private static void wall() {
        StreetWaves w = new StreetWaves();
        w.day(2);
        Checks.town(w, "wall 9 3 4 3 2;wall 1 8 1 5 3;");
        w.day(4);
        w.pull(true, 1);
        w.view(0);
        int[][] due = {{4, 3, 9, 3, 2, 2, -1}, {1, 5, 1, 8, 3, 2, 4}};
        for (int k = 0; k < 2; k++) {
            for (int what = 0; what < 7; what++) {
                due("12: wall " + k + ", " + what, w.wall(k, what), due[k][what]);
            }
        }
        due("12: another what", w.wall(0, 7), -2);
        due("12: another what", w.wall(0, -1), -2);
        due("12: none such", w.wall(2, 0), -2);
        due("12: none such", w.wall(-1, 0), -2);
    }

    // 13
    private static void sender() {
        StreetWaves w = new StreetWaves();
        w.day(2);
        Checks.town(w, "sender 9 3 4 77;sender 1 2 0 1;");
        w.day(4);
        w.pull(false, 1);
        w.view(0);
        int[][] due = {{9, 3, 4, 77, 2, -1}, {1, 2, 0, 1, 2, 4}};
        for (int k = 0; k < 2; k++) {
            for (int what = 0; what < 6; what++) {
                due("13: sender " + k + ", " + what, w.sender(k, what), due[k][what]);
            }
        }
        due("13: another what", w.sender(0, 6), -2);
        due("13: another what", w.sender(0, 7), -2);
        due("13: another what", w.sender(0, -1), -2);
        due("13: none such", w.sender(2, 0), -2);
        due("13: none such", w.sender(-1, 0), -2);
    }

    // 14
    private static void sees() {
        StreetWaves w = told("sender 0 0 0 1;sender 2 0 0 1;sender 0 3 0 1;sender 2 4 0 1;wall 2 2 2 6 0;");
        due("14: over the wall's end", w.sees(0, 4, 4), false);
        due("14: past it", w.sees(0, 5, 4), true);
        due("14: along it", w.sees(1, 2, 8), true);
        due("14: up to it", w.sees(2, 2, 3), true);
        due("14: over it", w.sees(2, 3, 3), false);
        due("14: from it", w.sees(3, 9, 4), true);
        due("14: at its own place", w.sees(3, 2, 4), true);
        due("14: none such", w.sees(4, 0, 0), false);
        due("14: none such", w.sees(-1, 0, 0), false);
        due("14: none such", w.sees(0, 21, 0), false);
        due("14: none such", w.sees(0, 0, -1), false);
        w.set(1, 100);
        due("14: round a corner is not by sight", w.sees(2, 3, 3), false);
        w.stuff(0, 50, 1);
        due("14: through glass", w.sees(2, 3, 3), true);
        w.pull(false, 2);
        due("14: pulled down", w.sees(2, 3, 3), false);
    }

    // 15, with kinds 1 and 2
    private static void ways() {
        StreetWaves w = told("sender 2 2 0 64;wall 4 4 8 4 0;");
        due("15: by the mirror's end", w.ways(0, 6, 2), 2);
        due("15: past it", w.ways(0, 5, 2), 1);
        due("15: on the other side", w.ways(0, 6, 5), 0);
        due("15: on the line", w.ways(0, 9, 4), 1);
        due("15: none such", w.ways(1, 0, 0), -1);
        due("15: none such", w.ways(0, 0, 21), -1);
        due("15: none such", w.ways(0, -1, 0), -1);
        w = told("sender 4 4 0 1;wall 0 0 0 9 0;wall 0 0 9 0 0;");
        w.set(0, 2);
        due("15: by two into the corner itself", w.ways(0, 2, 2), 3);
        due("15: by two", w.ways(0, 2, 3), 4);
        due("15: the lying one first", w.way(0, 2, 3, 3, 1) * 10 + w.way(0, 2, 3, 3, 2), 10);
        due("15: by two", w.ways(0, 3, 2), 4);
        due("15: the upright one first", w.way(0, 3, 2, 3, 1) * 10 + w.way(0, 3, 2, 3, 2), 1);
        w = told("sender 7 5 0 9999;wall 5 0 5 10 0;wall 10 0 10 10 1;");
        w.set(0, 2);
        due("15: the third leg is barred by the first mirror", w.ways(0, 2, 5), 0);
        w.stuff(0, 50, 100);
        // By sight 5; by 1 over 13 - 2 = 11; first 0, then 1: 2 + 5 + 8 = 15.
        due("15: or goes through it", w.ways(0, 2, 5), 3);
        due("15: sight", w.way(0, 2, 5, 0, 3), 25);
        due("15: one", w.way(0, 2, 5, 1, 3), 121);
        due("15: two", w.way(0, 2, 5, 2, 3), 225);
        // Six walls at x = 0 and six at x = 10: by sight, by each, by each and each of the other side.
        StringBuilder many = new StringBuilder("sender 4 5 0 9999;");
        for (int k = 0; k < 6; k++) {
            many.append("wall 0 0 0 9 0;wall 10 0 10 9 0;");
        }
        w = told(many.toString());
        w.set(0, 2);
        due("15: by all twelve walls", w.ways(0, 6, 5), 1 + 12 + 72);
        due("15: the last one", w.way(0, 6, 5, 84, 1) * 100 + w.way(0, 6, 5, 84, 2), 1110);
        w = told("sender 2 2 0 1;wall 5 0 5 4 0;wall 5 0 5 4 0;");
        due("15: walls in one place are two", w.ways(0, 2, 3), 3);
    }

    // 16: a mirror and a corner at one place, as far, and the other end of the wall
    private static void way() {
        StreetWaves w = told("sender 2 9 0 100;wall 5 0 5 10 0;wall 5 10 9 10 0;");
        due("16: BEND is 0 at first", w.ways(0, 8, 9), 1);
        w.set(1, 1);
        due("16: with the least BEND", w.ways(0, 8, 9), 3);
        w.set(1, 40);
        due("16: ways", w.ways(0, 8, 9), 3);
        int[][] due = {{1, 1, -1, 40, 0, 1250, 632}, {3, 0, 1, 10, 10, 1000, 632}, {3, 0, 0, 90, 90, 110, 1896}};
        for (int k = 0; k < due.length; k++) {
            for (int what = 0; what < 7; what++) {
                due("16: way " + k + ", " + what, w.way(0, 8, 9, k, what), due[k][what]);
            }
        }
        due("16: as long", w.compare(0, 0, 0, 1, 8, 9), 0);
        due("16: together", w.signal(0, 8, 9), 2360);
        due("16: another what", w.way(0, 8, 9, 0, 7), -2);
        due("16: another what", w.way(0, 8, 9, 0, -1), -2);
        due("16: none such", w.way(0, 8, 9, 3, 0), -2);
        due("16: none such", w.way(0, 8, 9, -1, 0), -2);
        due("16: none such", w.way(1, 8, 9, 0, 0), -2);
        due("16: none such", w.way(0, 21, 9, 0, 0), -2);
        due("16: sight has no wall", w.way(0, 2, 9, 0, 1), -1);
        due("16: nor a second one", w.way(0, 2, 9, 0, 2), -1);
        due("16: no corner where there is sight", w.ways(0, 4, 9), 2);
        w.stuff(0, 50, 1);
        due("16: nor through glass", w.way(0, 8, 9, 0, 0), 0);
        w.stuff(0, 50, 0);
        w.pull(true, 0);
        Checks.town(w, "wall 5 10 5 5 0;");
        due("16: the corner's least wall", w.way(0, 8, 9, 1, 1) * 10 + w.way(0, 8, 9, 1, 2), 10);
        w = told("sender 5 0 0 9;wall 5 0 5 10 0;wall 3 1 9 1 0;");
        w.set(1, 100);
        // From the corner (5, 0) to (5, 10), both no corners then, the wall 1 between.
        due("16: only the ends of the other wall", w.ways(0, 5, 10), 2);
        due("16: the nearer one", w.way(0, 5, 10, 0, 1) * 10 + w.way(0, 5, 10, 0, 2), 10);
        due("16: its legs", w.way(0, 5, 10, 0, 3) * 1000 + w.way(0, 5, 10, 0, 4), 5 * 1000 + 85);
        // Root of 5 * 85 = 20.6: 9000 / (5 + 85 + 40) = 69.
        due("16: its strength", w.way(0, 5, 10, 0, 5), 69);
        // 223.6 and 921.9.
        due("16: how late", w.way(0, 5, 10, 0, 6), 223 + 921);
    }

    // The order, of ways that are as long by kind and walls
    private static void order() {
        StreetWaves w = told("sender 4 5 0 324;wall 0 0 0 20 0;wall 10 0 10 20 0;");
        w.set(0, 2);
        int[][] due = {{0, -1, -1, 4, 81000}, {1, 0, -1, 100, 1620}, {1, 1, -1, 100, 1620}, {2, 0, 1, 324, 250}, {2, 1, 0, 484, 167}};
        due("order: ways", w.ways(0, 6, 5), due.length);
        for (int k = 0; k < due.length; k++) {
            due("order: kind " + k, w.way(0, 6, 5, k, 0), due[k][0]);
            due("order: first " + k, w.way(0, 6, 5, k, 1), due[k][1]);
            due("order: second " + k, w.way(0, 6, 5, k, 2), due[k][2]);
            due("order: D " + k, w.way(0, 6, 5, k, 3), due[k][3]);
            due("order: strength " + k, w.way(0, 6, 5, k, 5), due[k][4]);
        }
        due("order: together", w.signal(0, 6, 5), 84657);
        w = told("sender 4 5 0 9;wall 0 0 0 20 0;wall 5 0 5 9 0;");
        w.set(1, 100);
        // Corners 1 + root of 26 and more; by the mirror 0 nothing, as the wall 1 is between.
        due("order: the corner of wall 0 is nearer than none", w.way(0, 6, 5, 0, 1) * 10 + w.way(0, 6, 5, 0, 2), 11);
        due("order: and then its first end", w.way(0, 6, 5, 1, 1) * 10 + w.way(0, 6, 5, 1, 2), 10);
    }

    // Cut at each of the factors, walls by their numbers leg by leg
    private static void strengths() {
        StreetWaves w = told("sender 0 0 0 7;wall 2 0 2 5 1;wall 1 0 1 5 0;");
        w.stuff(0, 0, 33);
        w.stuff(1, 0, 66);
        // 7000 / 9 = 777; by wall 0: 512 (.82), by wall 1: 168 (.96); the other way round: 256, 168.
        due("strengths: 33 and 66", w.signal(0, 3, 0), 168);
        w.stuff(0, 0, 50);
        w.stuff(1, 0, 1);
        // 777 by 1: 7, by 50: 3; the other way round: 388, 3.
        due("strengths: 50 and 1", w.signal(0, 3, 0), 3);
        w = told("sender 0 0 0 1;wall 1 0 1 5 1;wall 2 0 2 5 0;wall 3 0 3 5 2;");
        w.stuff(0, 0, 60);
        w.stuff(1, 0, 40);
        w.stuff(2, 0, 70);
        // 1000 / 16 = 62; 24; 14; 9. The other way round 43, 25, 10.
        due("strengths: by numbers", w.signal(0, 4, 0), 9);
        w = told("sender 2 3 0 1;wall 0 0 0 6 1;wall 9 0 9 6 0;");
        w.set(0, 2);
        w.stuff(0, 50, 0);
        w.stuff(1, 33, 0);
        // First 0, then 1: D is (2 + 9 + 1) squared, 1000 / 144 = 6; by 33: 1; by 50: 0.
        due("strengths: the way of none", w.way(0, 8, 3, 3, 3) * 10 + w.way(0, 8, 3, 3, 5), 1440);
        due("strengths: is one", w.ways(0, 8, 3), 5);
        w = told("sender 2 3 0 99;wall 0 0 0 6 1;wall 9 0 9 6 0;");
        w.set(0, 2);
        w.stuff(0, 7, 0);
        w.stuff(1, 90, 0);
        // First 0: 99000 / 144 = 687; by 90: 618, by 7: 43. First 1: 99000 / 576 = 171; by 7: 11, by 90: 9 (else 153, 10).
        due("strengths: by the sender's first", w.way(0, 8, 3, 3, 5), 43);
        due("strengths: by the sender's first", w.way(0, 8, 3, 4, 5), 9);
    }

    // 17
    private static void compare() {
        StreetWaves w = told("sender 2 9 0 100;sender 8 9 1 1;wall 5 0 5 10 0;wall 5 10 9 10 0;");
        w.set(1, 40);
        due("17: less", w.compare(0, 1, 0, 2, 8, 9), -1);
        due("17: more", w.compare(0, 2, 0, 1, 8, 9), 1);
        due("17: as much", w.compare(0, 2, 0, 2, 8, 9), 0);
        due("17: of another one", w.compare(0, 0, 1, 0, 8, 9), 1);
        due("17: of another one", w.compare(1, 0, 0, 0, 8, 9), -1);
        due("17: none such", w.compare(0, 3, 0, 0, 8, 9), -2);
        due("17: none such", w.compare(0, 0, 0, 3, 8, 9), -2);
        due("17: none such", w.compare(0, -1, 0, 0, 8, 9), -2);
        due("17: none such", w.compare(0, 0, 0, -1, 8, 9), -2);
        due("17: none such", w.compare(2, 0, 0, 0, 8, 9), -2);
        due("17: none such", w.compare(0, 0, 2, 0, 8, 9), -2);
        due("17: none such", w.compare(0, 0, 0, 0, 8, 21), -2);
        // Root 5 + root 65 = 10.30 of sender 0, of sender 1 root 2 + root 68 = 9.66, then root 5 + root 65, too.
        w = told("sender 5 0 0 9;sender 4 1 0 9;wall 3 2 6 2 0;wall 3 2 3 3 0;");
        w.set(1, 100);
        due("17: sums of roots", w.compare(0, 0, 1, 0, 5, 10), 1);
        due("17: sums of roots", w.compare(1, 0, 0, 0, 5, 10), -1);
        due("17: sums of roots", w.compare(1, 1, 0, 0, 5, 10), 0);
        // 3 + 7, twice root 26 = 10.198, root 2 + root 82 = 10.469, twice root 41 = 12.8, root 34 + root 74 = 14.4.
        w = told("sender 0 5 0 9;wall 3 0 3 5 0;wall 1 6 1 9 0;wall 5 6 5 9 0;");
        w.set(1, 100);
        int[] firstLegs = {9, 26, 2, 41, 34};
        due("17: ways", w.ways(0, 10, 5), firstLegs.length);
        for (int k = 0; k < firstLegs.length; k++) {
            due("17: in order " + k, w.way(0, 10, 5, k, 3), firstLegs[k]);
            for (int i = 0; i < firstLegs.length; i++) {
                due("17: compare " + k + " " + i, w.compare(0, k, 0, i, 10, 5), Integer.compare(k, i));
            }
        }
    }

    // 18
    private static void signal() {
        StreetWaves w = told("sender 2 2 0 64;wall 4 4 8 4 0;");
        due("18: by sight and by a mirror", w.signal(0, 6, 2), 4000 + 1000);
        due("18: at its own place", w.signal(0, 2, 2), 64000);
        due("18: none there", w.signal(0, 6, 5), 0);
        due("18: none such", w.signal(1, 6, 5), -1);
        due("18: none such", w.signal(-1, 6, 5), -1);
        due("18: none such", w.signal(0, 21, 5), -1);
        due("18: none such", w.signal(0, 6, -1), -1);
        w.pull(false, 0);
        due("18: pulled down", w.signal(0, 6, 2), -1);
    }

    // 19
    private static void heard() {
        StreetWaves w = told("sender 0 0 0 40;sender 4 0 0 40;sender 9 0 1 1;");
        // At (2, 0): 10000, 10000 and 20 of another colour.
        due("19: NOISE is 1, SHARE 100 at first", w.heard(2, 0), 4);
        w.set(2, 0);
        due("19: not below", w.heard(2, 0), 7);
        w.set(3, 101);
        due("19: below", w.heard(2, 0), 4);
        w.set(3, 9999);
        w.set(2, 1);
        due("19: 2000 against 9999", w.heard(2, 0), 0);
        w.set(3, 0);
        due("19: all without a share", w.heard(2, 0), 7);
        w.set(3, 100);
        w.set(2, 20);
        due("19: as much as the noise", w.heard(2, 0), 4);
        w.set(2, 21);
        due("19: less", w.heard(2, 0), 0);
        due("19: no such point", w.heard(-1, 0), -1);
        due("19: no such point", w.heard(0, 21), -1);
        Checks.town(w, "wall 3 0 3 20 0;");
        w.set(3, 0);
        due("19: nothing is not heard", w.heard(2, 0), 1);
        w.set(3, 100);
        w.set(2, 1);
        due("19: nor does it weigh", w.heard(2, 0), 1);
    }

    // 20
    private static void best() {
        StreetWaves w = told("sender 0 0 0 40;sender 4 0 1 40;sender 4 0 2 41;sender 3 0 3 1;");
        due("20: the greatest", w.best(3, 0), 2);
        w.pull(false, 2);
        due("20: of several the least", w.best(2, 0), 0);
        due("20: the greatest", w.best(3, 0), 1);
        w.set(2, 9999);
        w.set(3, 1000);
        due("20: none", w.best(3, 0), -1);
        due("20: no such point", w.best(21, 0), -1);
        due("20: no such point", w.best(0, -1), -1);
        w = told("sender 0 0 0 40;sender 4 0 0 40;sender 9 0 1 1;");
        due("20: only those that are heard", w.best(2, 0), 2);
    }

    // 21 and 22
    private static void step() {
        StreetWaves w = new StreetWaves();
        due("21: none such", w.step(21, 0), -1);
        due("21: none such", w.step(0, -1), -1);
        for (int k = 1; k <= 60; k++) {
            due("21: steps", w.step(20, k % 21), k);
        }
        due("21: there are 60", w.step(0, 0), -1);
        due("21: still", w.walk(0), 60);
        w.unwalk();
        due("22: empty", w.walk(0), 0);
        due("22: none lost", w.walk(2), 0);
        due("21: the first again", w.step(0, 20), 1);
    }

    // 23
    private static void served() {
        StreetWaves w = told("sender 0 0 0 10;sender 2 0 1 11;");
        w.step(0, 0);
        w.step(1, 0);
        due("23: at first the best", w.served(0), 0);
        due("23: 11000 is not above 110 / 100 of 10000", w.served(1), 0);
        w.set(5, 9);
        due("23: but of 109 / 100", w.served(1), 1);
        due("23: no such second", w.served(2), -1);
        due("23: no such second", w.served(-1), -1);
        w = told("sender 0 0 0 100;sender 10 0 1 100;");
        w.set(6, 2);
        int[] xs = {2, 6, 4, 6, 6, 5, 4, 4, 4};
        int[] due = {0, 0, 0, 0, 1, 1, 1, 0, 0};
        for (int x : xs) {
            w.step(x, 0);
        }
        for (int second = 0; second < due.length; second++) {
            due("23: wishes one behind the other, " + second, w.served(second), due[second]);
        }
        // Another one serves: its wishes are none, though a third one is better at once.
        w = told("sender 0 0 0 100;sender 10 0 1 100;sender 20 0 2 100;");
        w.set(6, 2);
        int[] far = {0, 10, 10, 20, 20};
        int[] farDue = {0, 0, 1, 1, 2};
        for (int x : far) {
            w.step(x, 0);
        }
        for (int second = 0; second < farDue.length; second++) {
            due("23: new wishes, " + second, w.served(second), farDue[second]);
        }
        // Who serves is not heard any more: the best at once, whatever HOLD.
        w = told("sender 0 0 0 100;sender 10 0 1 100;sender 9 0 0 100;wall 20 20 20 19 0;");
        w.set(6, 9);
        w.step(1, 0);
        w.step(9, 1);
        due("23: served", w.served(0), 0);
        due("23: at once", w.served(1), 2);
        w.pull(false, 2);
        due("23: still heard", w.served(1), 0);
        w.set(2, 9999);
        due("23: lost", w.served(1), 1);
    }

    // 24
    private static void walk() {
        StreetWaves w = told("sender 0 0 0 1;sender 10 0 1 1;");
        w.set(2, 200);
        int[] xs = {0, 1, 5, 9, 5, 10, 0, 5};
        int[] due = {0, 0, -1, 1, -1, 1, 0, -1};
        for (int x : xs) {
            w.step(x, 0);
        }
        for (int second = 0; second < due.length; second++) {
            due("24: served " + second, w.served(second), due[second]);
        }
        due("24: seconds", w.walk(0), 8);
        due("24: changes", w.walk(1), 1);
        due("24: lost ones", w.walk(2), 3);
        w.unwalk();
        w.step(0, 0);
        w.step(10, 0);
        due("24: changes, asked first", w.walk(1), 1);
        w.step(5, 0);
        due("24: lost ones, asked first", w.walk(2), 1);
        due("24: another what", w.walk(3), -1);
        due("24: another what", w.walk(-1), -1);
    }

    // 25
    private static void cover() {
        StreetWaves w = told("need 0 0;need 20 20;");
        due("25: there is none", w.cover(0), -1);
        due("25: there is none", w.cover(1), -1);
        due("25: there is none", w.cover(2), -1);
        w.set(4, 1000);
        Checks.town(w, "site 0 0 10 2;site 20 20 10 2;site 10 10 9999 5;");
        due("25: the least cost", w.cover(0), 4);
        due("25: two", w.cover(1), 2);
        due("25: these", w.cover(2), 3);
        Checks.town(w, "site 10 10 9999 4;site 10 10 9999 4;");
        due("25: as dear", w.cover(0), 4);
        due("25: the fewest", w.cover(1), 1);
        due("25: the least bits", w.cover(2), 8);
        due("25: another what", w.cover(3), -1);
        due("25: another what", w.cover(-1), -1);
        w = told("site 1 1 1 1;");
        due("25: no needs, no cost", w.cover(0), 0);
        due("25: no needs, none", w.cover(1), 0);
        due("25: no needs, no set", w.cover(2), 0);
        w = told("need 0 0;site 0 1 1 1;");
        w.set(4, 1000);
        due("25: LEAST is enough", w.cover(2), 1);
        w.set(4, 1001);
        due("25: less is not", w.cover(2), -1);
    }

    // 26
    private static void serves() {
        StreetWaves w = told("site 2 2 64 1;wall 4 4 8 4 0;need 6 2;need 6 5;sender 6 2 0 9;");
        due("26: by sight and by a mirror", w.serves(0, 0), 5000);
        due("26: nothing", w.serves(0, 1), 0);
        due("26: none such", w.serves(1, 0), -1);
        due("26: none such", w.serves(0, 2), -1);
        due("26: none such", w.serves(-1, 0), -1);
        due("26: none such", w.serves(0, -1), -1);
        w.day(1);
        w.pull(true, 0);
        due("26: by the walls of the view", w.serves(0, 0), 4000);
        w.view(0);
        due("26: by the walls of the view", w.serves(0, 0), 5000);
        // A site is as strong as a sender in its place; what was asked of senders does not mix with it.
        w = told("sender 0 0 0 1;sender 0 0 0 1;sender 0 0 0 1;sender 0 0 0 1;sender 0 0 0 1;sender 0 0 0 900;"
                + "need 0 1;need 0 2;need 0 3;need 0 4;need 0 5;need 0 6;need 0 7;need 0 8;");
        Checks.town(w, "site 0 0 1 1;site 0 0 2 1;site 0 0 3 1;site 0 0 4 1;site 0 0 5 1;site 0 0 6 1;site 0 0 7 1;site 0 0 8 1;");
        w.places();
        w.span(5, 0, 1000000000);
        w.places();
        for (int site = 0; site < 8; site++) {
            for (int need = 0; need < 8; need++) {
                due("26: serves " + site + " " + need, w.serves(site, need), (site + 1) * 1000 / (need + 1) / (need + 1));
            }
        }
        for (int y = 1; y <= 20; y++) {
            due("26: the sender still", w.signal(5, 0, y), 900000 / y / y);
        }
        w = told("sender 0 0 0 1;site 0 0 2 1;need 0 3;");
        due("26: a way", w.way(0, 0, 2, 0, 3), 4);
        w.serves(0, 0);
        due("26: still the way", w.way(0, 0, 2, 0, 3), 4);
    }

    // 27
    private static void clash() {
        StreetWaves w = told("sender 0 0 0 5;sender 4 0 0 5;sender 8 0 0 5;need 2 0;need 6 0;");
        w.set(4, 1250);
        due("27: at the first need", w.clash(0, 1), true);
        due("27: at the second one", w.clash(2, 1), true);
        due("27: at none in common", w.clash(0, 2), false);
        due("27: one", w.clash(1, 1), false);
        due("27: none such", w.clash(0, 3), false);
        due("27: none such", w.clash(-1, 0), false);
        w.set(4, 1251);
        due("27: below LEAST", w.clash(0, 1), false);
        w.set(4, 1250);
        w.pull(false, 1);
        due("27: pulled down", w.clash(0, 1), false);
        due("27: both", w.clash(1, 1), false);
    }

    // 28
    private static void colour() {
        // Clashes 0-2, 1-3, 2-3: one by one this would take three numbers.
        StreetWaves w = told("sender 0 0 0 5;sender 12 0 0 5;sender 4 0 0 5;sender 8 0 0 5;need 2 0;need 10 0;need 6 0;");
        w.set(4, 1000);
        int[] due = {0, 1, 1, 0};
        for (int k = 0; k < due.length; k++) {
            due("28: colour " + k, w.colour(k), due[k]);
        }
        due("28: numbers", w.count(9), 2);
        due("28: none such", w.colour(4), -1);
        due("28: none such", w.colour(-1), -1);
        w.pull(false, 3);
        due("28: pulled down", w.colour(3), -1);
        due("28: 1 is free", w.colour(1), 0);
        due("28: 2 is not", w.colour(2), 1);
        w = told("sender 0 0 0 5;sender 12 0 0 5;sender 4 0 0 5;sender 8 0 0 5;need 2 0;need 10 0;need 6 0;");
        w.set(4, 1000);
        w.pull(false, 0);
        int[] rest = {-1, 0, 0, 1};
        for (int k = 0; k < rest.length; k++) {
            due("28: without the first, " + k, w.colour(k), rest[k]);
        }
        w = told("need 5 5;sender 5 5 0 9;sender 5 5 0 9;sender 5 5 0 9;sender 5 5 0 9;sender 5 5 0 9;sender 5 5 0 9;");
        for (int k = 0; k < 6; k++) {
            due("28: all clash", w.colour(k), k);
        }
        due("28: six numbers", w.count(9), 6);
        w.set(4, 9999);
        due("28: none clash", w.colour(5), 0);
        due("28: one number", w.count(9), 1);
    }

    // 29
    private static void span() {
        StreetWaves w = told("sender 10 10 0 9;sender 0 0 0 9;");
        due("29: a span", w.span(0, 9000, 9000), true);
        due("29: it counts", w.places(), 5);
        due("29: a above b", w.span(0, 1, 0), false);
        due("29: below 0", w.span(0, -2, 5), false);
        due("29: too much", w.span(0, 0, 1000000001), false);
        due("29: none such", w.span(2, 0, 1), false);
        due("29: none such", w.span(-1, 0, 1), false);
        due("29: none such", w.span(2, -1, 0), false);
        due("29: nothing changed", w.places(), 5);
        due("29: the widest", w.span(0, 0, 1000000000), true);
        due("29: all fit", w.places(), 441);
        w.span(0, 9000, 9000);
        due("29: none any more", w.span(0, -1, 0), true);
        due("29: all fit", w.places(), 441);
        w.day(3);
        w.pull(false, 0);
        due("29: of all senders, pulled down ones too", w.span(0, 9000, 9000), true);
        due("29: which are none now", w.places(), 441);
        w.view(2);
        due("29: but were then", w.places(), 5);
    }

    // 30 and 31
    private static void places() {
        StreetWaves w = told("sender 10 10 0 9;sender 11 9 0 9;");
        due("30: all", w.places(), 441);
        due("31: the last", w.place(440), 2020);
        due("31: none such", w.place(441), -1);
        due("31: by y, then x", w.place(22), 101);
        w.span(0, 9000, 9000);
        int[] due = {910, 1009, 1010, 1011, 1110};
        due("30: around it", w.places(), due.length);
        for (int k = 0; k < due.length; k++) {
            due("31: place " + k, w.place(k), due[k]);
        }
        due("31: none such", w.place(5), -1);
        due("31: none such", w.place(-1), -1);
        w.span(1, 9000, 9000);
        due("30: around both", w.places(), 2);
        due("31: the first", w.place(0), 910);
        due("31: the second", w.place(1), 1011);
        w.span(1, 9001, 9001);
        due("30: none", w.places(), 0);
        due("31: none", w.place(0), -1);
        w.span(1, 4500, 8999);
        due("30: from a to b", w.places(), 1);
        due("31: the only one", w.place(0), 1010);
    }

    // 32
    private static void echo() {
        StreetWaves w = told("sender 3 4 0 1;sender 5 5 0 1;");
        due("32: x = 2", w.echo(0, 5, 4, 16, 0), 2);
        due("32: x = 6", w.echo(0, 5, 4, 16, 1), 6);
        due("32: no more", w.echo(0, 5, 4, 16, 2), -1);
        due("32: y = 2", w.echo(0, 5, 4, 20, 0), 102);
        due("32: y = 6", w.echo(0, 5, 4, 20, 1), 106);
        due("32: between them", w.echo(0, 5, 4, 0, 0), -1);
        due("32: through one of them", w.echo(0, 5, 4, 4, 0), -1);
        int[] due = {3, 7, 103, 107};
        for (int k = 0; k < due.length; k++) {
            due("32: line " + k, w.echo(1, 5, 5, 16, k), due[k]);
        }
        due("32: k below 0", w.echo(1, 5, 5, 16, -1), -1);
        due("32: the edge", w.echo(1, 5, 5, 100, 0), 0);
        due("32: beyond it", w.echo(1, 5, 5, 100, 1), 10);
        due("32: the far edge", w.echo(1, 20, 20, 225 + 225, 0), -1);
        due("32: no such e", w.echo(1, 5, 5, -16, 0), -1);
        due("32: no such e", w.echo(1, 5, 5, MOST_INT, 0), -1);
        due("32: none such", w.echo(2, 5, 5, 16, 0), -1);
        due("32: none such", w.echo(-1, 5, 5, 16, 0), -1);
        due("32: none such", w.echo(1, 21, 5, 18 * 18, 0), -1);
        due("32: within", w.echo(1, 20, 5, 17 * 17, 0), 4);
        w.pull(false, 1);
        due("32: pulled down", w.echo(1, 5, 5, 16, 0), -1);
    }

    // 33
    private static void why() {
        StreetWaves w = told("sender 3 4 0 7;sender 5 6 0 8;sender 7 8 1 9;need 3 4;need 3 5;");
        due("33: no law", w.why(0, 0), -1);
        Checks.law(w, "if hour>22:bar;if alone and hour<1:may;if x=3 and y=4 and power=7 and colour=0:bar;if not heard<1000:may;");
        due("33: hour", w.why(0, 23), 0);
        due("33: alone", w.why(2, 0), 1);
        due("33: x, y, power, colour", w.why(0, 0), 2);
        // Of sender 1 at (3, 4) 8000 / 8 = 1000, at (3, 5) 8000 / 5 = 1600; of sender 2 9000 / 32, 9000 / 25.
        due("33: heard", w.why(1, 0), 3);
        due("33: none", w.why(2, 1), -1);
        due("33: none such", w.why(3, 0), -1);
        due("33: none such", w.why(-1, 0), -1);
        due("33: none such", w.why(0, 24), -1);
        due("33: none such", w.why(0, -1), -1);
        w.pull(false, 1);
        due("33: pulled down", w.why(1, 0), -1);
        Checks.law(w, "if heard=7000:may;if heard=360:may;bar;");
        due("33: the greatest", w.why(0, 0), 0);
        due("33: the greatest", w.why(2, 0), 1);
        Checks.town(w, "sender 3 4 0 9999;");
        Checks.law(w, "if not alone:may;if heard=9999:may;bar;");
        due("33: not alone", w.why(0, 0), 0);
        w.pull(false, 0);
        due("33: alone, with 9999 at most", w.why(3, 0), 1);
        w = told("sender 3 4 0 7;");
        Checks.law(w, "if heard=0:may;");
        due("33: 0 without needs", w.why(0, 0), 0);
    }

    // 34
    private static void breach() {
        StreetWaves w = told("sender 3 4 0 7;sender 5 6 0 8;sender 7 8 1 9;");
        due("34: no law", w.breach(0), -1);
        due("34: no law", w.breach(1), -1);
        Checks.law(w, "if hour<5:may;if x=3:may;if hour<7 and not x=7:may;bar;");
        due("34: the first hour", w.breach(0), 5);
        due("34: in it the first sender", w.breach(1), 2);
        due("34: another what", w.breach(2), -1);
        due("34: another what", w.breach(-1), -1);
        w.pull(false, 2);
        due("34: pulled down", w.breach(0), 7);
        due("34: the next one", w.breach(1), 1);
        Checks.law(w, "if hour>23:bar;");
        due("34: none", w.breach(0), -1);
        StreetWaves loud = told("need 0 0;sender 0 2 0 4;sender 0 1 0 4;");
        Checks.law(loud, "if heard>3999:bar;");
        due("34: by what is heard", loud.breach(1), 1);
        Checks.law(w, "if hour=23:bar;");
        due("34: the last hour", w.breach(0), 23);
        due("34: the first sender", w.breach(1), 0);
    }

    // 35
    private static void count() {
        StreetWaves w = told("sender 3 4 0 7;sender 5 6 0 8;wall 0 0 0 5 0;wall 1 0 1 5 0;site 1 1 1 1;need 2 2;need 2 3;need 3 4;");
        w.day(2);
        Checks.town(w, "wall 2 0 2 5 0;");
        w.pull(true, 0);
        w.pull(true, 1);
        w.pull(false, 1);
        Checks.law(w, "may;bar;may;");
        int[] now = {1, 1, 3, 2, 1, 3, 2, -1, 3, 1};
        for (int what = 0; what < now.length; what++) {
            due("35: count " + what, w.count(what), now[what]);
        }
        w.view(1);
        int[] then = {2, 2, 3, 2, 1, 3, 2, 1, 3};
        for (int what = 0; what < then.length; what++) {
            due("35: count " + what + " by then", w.count(what), then[what]);
        }
        due("35: another what", w.count(10), -2);
        due("35: another what", w.count(-1), -2);
    }

    // 36 and 37
    private static void images() {
        StreetWaves w = told("sender 3 4 0 7;wall 0 0 0 5 0;site 1 1 1 1;need 2 2;");
        due("36: another k", w.image(3), false);
        due("36: another k", w.image(-1), false);
        due("37: none such", w.again(0), false);
        due("36: image 0", w.image(0), true);
        w.day(4);
        Checks.law(w, "bar;");
        w.step(3, 4);
        w.stuff(0, 100, 100);
        w.set(0, 0);
        w.span(0, 1, 2);
        w.pull(true, 0);
        w.view(3);
        Checks.town(w, "oops");
        w.feed(0x6e656564, 0x20312031, 0x3b202020, 0x20202020, 0x20202020);
        due("36: image 1", w.image(1), true);
        due("37: image 0 again", w.again(0), true);
        due("37: day", w.count(6), 0);
        due("37: law", w.count(8), 0);
        due("37: walk", w.walk(0), 0);
        due("37: view", w.count(7), -1);
        due("37: wall", w.wall(0, 6), -1);
        due("37: fault", w.fault(0), 0);
        due("37: tape", w.end(1), -1);
        due("37: spans", w.places(), 441);
        due("37: stuffs and settings", w.signal(0, 3, 4), 7000 + 7000 / 36 / 2);
        Checks.town(w, "need 5 5;sender 1 1 1 1;site 3 3 3 3;");
        due("37: image 2, which is none", w.again(2), false);
        due("37: image 1 stays", w.again(1), true);
        due("37: needs", w.count(5), 1);
        due("37: sites", w.count(4), 1);
        due("37: senders", w.count(3), 1);
        due("37: day", w.count(6), 4);
        due("37: law", w.count(8), 1);
        due("37: walk", w.walk(0), 1);
        due("37: view", w.count(7), 3);
        due("37: wall", w.wall(0, 6), 4);
        due("37: fault", w.fault(0), 1);
        due("37: its place", w.fault(1), 0);
        due("37: spans", w.places() < 441, true);
        due("37: settings", w.signal(0, 3, 4), 7000);
        due("37: tape", w.town(), 1);
        due("37: again", w.again(1), true);
        due("37: the image is as it was", w.count(5), 1);
        due("36: another one in its place", w.again(0) && w.image(1) && w.again(1), true);
        due("36: it is", w.count(6), 0);
        due("37: another k", w.again(3), false);
        due("37: another k", w.again(-1), false);
    }
}
