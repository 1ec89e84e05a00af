/** Term 4 of the document: sites, needs, covers, clashes, colourings, spans, places and echoes. */
public final class TermFourTest extends Trial {
    /** Four senders in a row, each next two with a need between them; at LEAST 1000 they clash there alone. */
    private static final String CHAIN = "sender 0 0 0 5;sender 4 0 0 5;sender 8 0 0 5;sender 12 0 0 5;need 2 0;need 6 0;need 10 0;";

    public static void main(String[] args) {
        TermFourTest test = new TermFourTest();
        test.mostSites();
        test.mostNeeds();
        test.powersAndCosts();
        test.servesWithLeast();
        test.asIfASender();
        test.coverOfNothing();
        test.coverOfNone();
        test.leastCost();
        test.thenTheFewest();
        test.thenTheLeastBits();
        test.coverOfAll();
        test.clashWithLeast();
        test.clashAtTheSameNeed();
        test.fewestNumbers();
        test.leastRow();
        test.mostNumbers();
        test.noSendersNoNumbers();
        test.spans();
        test.eachSenderWithASpan();
        test.placesByYThenX();
        test.echoStrictlyOnOneSide();
        test.echoLines();
        test.echoByTheNumberTold();
        test.finish();
    }

    private void mostSites() {
        sentence("SITES, at most 8, from 0 on");
        most("site 3 3 1 1;", 8, 4);
        town(1, "need 3 4;");
        is(1000, "serves", 0, 0);
        is(1000, "serves", 7, 0);
        is(NONE, "serves", 8, 0);
    }

    private void mostNeeds() {
        sentence("NEEDS, at most 8, from 0 on");
        most("need 3 4;", 8, 5);
        town(1, "site 3 3 1 1;");
        is(1000, "serves", 0, 0);
        is(1000, "serves", 0, 7);
        is(NONE, "serves", 0, 8);
    }

    private void powersAndCosts() {
        sentence("POINTS with a POWER and a COST, 1 .. 999");
        town(3, "need 0 0;site 0 0 1 999;site 0 0 9999 999;");
        is(1000, "serves", 0, 0);
        is(9999000, "serves", 1, 0);
        is(999, "cover", 0);
        town(1, "site 0 0 1 1;");
        is(1, "cover", 0);
        badTown("site 0 0 0 1;", 2, 9);
        badTown("site 0 0 1 0;", 2, 11);
        badTown("site 0 0 1 1000;", 2, 11);
        badTown("site 0 0 10000 1;", 1, 9);
    }

    private void servesWithLeast() {
        sentence("SERVES a NEED, if its SIGNAL there is LEAST or more");
        town(2, "need 0 2;site 0 0 1 7;");
        is(250, "serves", 0, 0);
        yes("set", 4, 250);
        is(7, "cover", 0);
        yes("set", 4, 251);
        is(NONE, "cover", 0);
        yes("set", 4, 249);
        is(7, "cover", 0);
    }

    private void asIfASender() {
        sentence("A SITE, as if a SENDER stood there");
        town(6, "site 2 5 100 1;wall 5 4 5 10 0;need 2 5;need 8 5;need 5 5;sender 2 5 0 100;");
        yes("set", 1, 50);
        yes("set", 0, 2);
        int[] xs = {2, 8, 5};
        // 100000 + 1388; round (5, 4) 100000 / (10 + 10 + 20) by 50, round (5, 10) 100000 / 136 by 50; 100000 / 9.
        int[] due = {101388, 1250 + 367, 11111};
        for (int need = 0; need < xs.length; need++) {
            is(due[need], "serves", 0, need);
            is(due[need], "signal", 0, xs[need], 5);
        }
    }

    private void coverOfNothing() {
        sentence("all sets of SITES by which each NEED is SERVED [without NEEDS each set]");
        row("cover", new int[] {0, 0, 0, NONE});
        town(2, "site 0 0 1 1;site 0 0 1 1;");
        row("cover", new int[] {0, 0, 0, NONE});
    }

    private void coverOfNone() {
        sentence("all sets of SITES by which each NEED is SERVED by one at least [there may be none]");
        town(1, "need 0 0;");
        row("cover", new int[] {NONE, NONE, NONE, NONE});
        town(1, "site 0 0 1 1;");
        row("cover", new int[] {1, 1, 1, NONE});
        town(1, "need 20 20;");
        row("cover", new int[] {NONE, NONE, NONE, NONE});
    }

    private void leastCost() {
        sentence("that with the least COST together");
        town(5, "need 0 0;need 20 20;site 10 10 9999 5;site 0 0 1 2;site 20 20 1 2;");
        yes("set", 4, 1000);
        row("cover", new int[] {4, 2, 6});
        town(1, "site 10 10 9999 3;");
        row("cover", new int[] {3, 1, 8});
    }

    private void thenTheFewest() {
        sentence("then the fewest");
        town(4, "need 0 0;need 20 20;site 0 0 1 2;site 20 20 1 2;");
        yes("set", 4, 1000);
        row("cover", new int[] {4, 2, 3});
        town(1, "site 10 10 9999 4;");
        row("cover", new int[] {4, 1, 4});
    }

    private void thenTheLeastBits() {
        sentence("then the least bits");
        // One of sites 0 and 1, one of sites 2 and 3: bits 5, 6, 9, 10.
        town(6, "need 0 0;need 20 20;site 0 0 1 2;site 0 0 1 2;site 20 20 1 2;site 20 20 1 2;");
        yes("set", 4, 1000);
        row("cover", new int[] {4, 2, 5});
        anew();
        // Sites 0 and 3 serve all (bits 9), and so do 1 and 2 (6), 1 and 3 (10); 0 and 2 miss the second need.
        town(7, "need 0 0;need 4 0;need 8 0;site 0 0 1 2;site 2 0 4 2;site 8 0 1 2;site 6 0 4 2;");
        yes("set", 4, 1000);
        row("cover", new int[] {4, 2, 6});
        yes("set", 4, 1001);
        row("cover", new int[] {NONE, NONE, NONE});
        anew();
        town(3, "need 0 0;site 0 0 1 9;site 0 0 1 9;");
        row("cover", new int[] {9, 1, 1});
    }

    private void coverOfAll() {
        sentence("COVER: of all sets of SITES");
        StringBuilder sites = new StringBuilder();
        StringBuilder needs = new StringBuilder();
        for (int k = 0; k < 8; k++) {
            sites.append("site ").append(2 * k).append(" 0 1 999;");
            needs.append("need ").append(2 * k).append(" 0;");
        }
        town(8, sites.toString());
        town(8, needs.toString());
        yes("set", 4, 1000);
        row("cover", new int[] {8 * 999, 8, 255});
        yes("set", 4, 1);
        // 1000 / 196 is 5: each alone serves all.
        row("cover", new int[] {999, 1, 1});
        yes("set", 4, 6);
        row("cover", new int[] {999, 1, 2});
    }

    private void clashWithLeast() {
        sentence("Two SENDERS CLASH, if SIGNALS of both are LEAST or more");
        town(3, "sender 0 0 0 5;sender 4 0 1 6;need 2 0;");
        yes("set", 4, 1250);
        yes("clash", 0, 1);
        yes("clash", 1, 0);
        yes("set", 4, 1251);
        no("clash", 0, 1);
        no("clash", 1, 0);
    }

    private void clashAtTheSameNeed() {
        sentence("at one and the same NEED");
        town(4, "sender 0 0 0 5;sender 4 0 0 5;need 0 0;need 4 0;");
        yes("set", 4, 1000);
        no("clash", 0, 1);
        town(1, "need 2 0;");
        yes("clash", 0, 1);
        anew();
        town(2, "sender 0 0 0 5;sender 0 0 0 5;");
        no("clash", 0, 1);
    }

    private void fewestNumbers() {
        sentence("unlike for those that CLASH: with the fewest numbers");
        // Clashes 0-2, 1-3, 2-3: each by itself would take the least number, and so three of them.
        town(7, "sender 0 0 0 5;sender 12 0 0 5;sender 4 0 0 5;sender 8 0 0 5;need 2 0;need 10 0;need 6 0;");
        yes("set", 4, 1000);
        row("colour", new int[] {0, 1, 1, 0});
        is(2, "count", 9);
    }

    private void leastRow() {
        sentence("of several the least row (SENDER by SENDER)");
        town(7, CHAIN);
        yes("set", 4, 1000);
        row("colour", new int[] {0, 1, 0, 1, NONE});
        is(2, "count", 9);
        yes("pull", 0, 1);
        row("colour", new int[] {0, NONE, 0, 1, NONE});
        yes("pull", 0, 0);
        row("colour", new int[] {NONE, NONE, 0, 1, NONE});
        yes("pull", 0, 3);
        row("colour", new int[] {NONE, NONE, 0, NONE, NONE});
        is(1, "count", 9);
    }

    private void mostNumbers() {
        sentence("a number from 0 on for each SENDER");
        town(7, "need 5 5;" + times(6, "sender 5 5 0 9;"));
        row("colour", new int[] {0, 1, 2, 3, 4, 5, NONE});
        is(6, "count", 9);
        yes("pull", 0, 2);
        row("colour", new int[] {0, 1, NONE, 2, 3, 4, NONE});
        is(5, "count", 9);
    }

    private void noSendersNoNumbers() {
        sentence("a number from 0 on for each SENDER [without one none]");
        is(0, "count", 9);
        is(NONE, "colour", 0);
        town(1, "sender 5 5 0 9;");
        is(1, "count", 9);
        is(0, "colour", 0);
        yes("pull", 0, 0);
        is(0, "count", 9);
        is(NONE, "colour", 0);
    }

    private void spans() {
        sentence("SPANS: of a SENDER SIGNAL was from a to b.");
        // 9000 at its own place and the four beside it, 4500 at the four next ones.
        town(1, "sender 10 10 0 9;");
        yes("span", 0, 9000, 9000);
        is(5, "places");
        yes("span", 0, 4500, 9000);
        is(9, "places");
        yes("span", 0, 4501, 9000);
        is(5, "places");
        yes("span", 0, 4500, 8999);
        is(4, "places");
        yes("span", 0, 4501, 8999);
        is(0, "places");
        is(NONE, "place", 0);
        yes("span", 0, 0, 0);
        is(0, "places");
        yes("span", 0, 0, 1000000000);
        is(441, "places");
        town(1, "wall 0 9 20 9 0;");
        yes("span", 0, 0, 0);
        is(9 * 21, "places");
    }

    private void eachSenderWithASpan() {
        sentence("PLACES that fit: POINTS at which SIGNAL of each SENDER with a SPAN lies in it");
        town(2, "sender 10 10 0 9;sender 11 9 0 9;");
        is(441, "places");
        yes("span", 0, 9000, 9000);
        is(5, "places");
        yes("span", 1, 9000, 9000);
        is(2, "places");
        row("place", new int[] {910, 1011, NONE});
        yes("span", 0, NONE, 0);
        is(5, "places");
        row("place", new int[] {811, 910, 911, 912, 1011, NONE});
        anew();
        is(441, "places");
    }

    private void placesByYThenX() {
        sentence("by y, then x");
        town(1, "sender 0 0 0 1;");
        is(0, "place", 0);
        is(20, "place", 20);
        is(100, "place", 21);
        is(1920, "place", 419);
        is(2000, "place", 420);
        is(2020, "place", 440);
        is(NONE, "place", 441);
        yes("span", 0, 500, 1000);
        row("place", new int[] {0, 1, 100, 101, NONE});
    }

    private void echoStrictlyOnOneSide() {
        sentence("at which the SENDER mirrored lies just so far from the POINT, both strictly on one side of it");
        town(2, "sender 3 4 0 1;sender 5 4 0 1;");
        // x = c: (2c - 8) squared; through one of them 4, between them 0.
        is(NONE, "echo", 0, 5, 4, 4, 0);
        is(NONE, "echo", 0, 5, 4, 0, 0);
        is(2, "echo", 0, 5, 4, 16, 0);
        is(6, "echo", 0, 5, 4, 16, 1);
        is(NONE, "echo", 0, 5, 4, 16, 2);
        is(NONE, "echo", 0, 5, 4, 15, 0);
        is(NONE, "echo", 0, 5, 4, 17, 0);
        // y = c: 4 and (2c - 8) squared; c = 4 would be their own line, with 4.
        is(103, "echo", 0, 5, 4, 8, 0);
        is(105, "echo", 0, 5, 4, 8, 1);
        // To its own place: no line through it.
        is(NONE, "echo", 1, 5, 4, 0, 0);
        row("echo", new int[] {4, 6, 103, 105, NONE}, 1, 5, 4, 4);
    }

    private void echoLines() {
        sentence("lines x = c (told as c) and y = c (told as 100 + c), c 0 .. 20");
        town(2, "sender 1 19 0 1;sender 10 10 0 1;");
        row("echo", new int[] {0, 2, 118, 120, NONE}, 0, 1, 19, 4);
        // x = -1 and y = 21 would be as far.
        row("echo", new int[] {3, 117, NONE}, 0, 1, 19, 16);
        row("echo", new int[] {0, 20, 100, 120, NONE}, 1, 10, 10, 400);
        row("echo", new int[] {NONE}, 1, 10, 10, 484);
    }

    private void echoByTheNumberTold() {
        sentence("these by the number told");
        town(1, "sender 8 8 0 1;");
        // x = c: (2c - 16) squared, to the same place; 36 of 5, 11, 105 and 111.
        row("echo", new int[] {5, 11, 105, 111, NONE}, 0, 8, 8, 36);
        // To (9, 8): x = c: (2c - 17) squared, 25 of 6 and 11; y = c: 1 and (2c - 16) squared, 5 of 107 and 109.
        row("echo", new int[] {6, 11, NONE}, 0, 9, 8, 25);
        row("echo", new int[] {107, 109, NONE}, 0, 9, 8, 5);
    }
}
