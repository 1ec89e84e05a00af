/** The last of each sort that may be counts like the others, and the greatest numbers are reckoned like small ones. */
public final class LastOnesTest extends Trial {
    /** Seven needs at which a sender of power 1 in the first corner of the town is far below LEAST. */
    private static final String SEVEN_FAR = times(7, "need 20 20;");
    private static final String ASIDE = "wall 0 0 1 0 0;";

    public static void main(String[] args) {
        LastOnesTest test = new LastOnesTest();
        test.cornersOfTheLastWall();
        test.cornerOfTheLastTwoWalls();
        test.marginOfGreatSignals();
        test.clashAtTheLastNeed();
        test.spanOfTheLastSender();
        test.heardAtTheLastNeed();
        test.breachOfTheLastSender();
        test.aloneButForTheLastSender();
        test.finish();
    }

    /** Waves bend, and are not thrown back. */
    private void bendAlone() {
        yes("set", 0, 0);
        yes("set", 1, 50);
    }

    private void cornersOfTheLastWall() {
        sentence("3: two LEGS by a CORNER, an end of a WALL [of at most 12]");
        town(13, "sender 0 10 0 100;" + times(11, ASIDE) + "wall 5 8 5 12 0;");
        bendAlone();
        is(4, "ways", 0, 10, 10);
        way(0, 10, 10, 0, 3, 11, 0, 29, 29, 431, 1076);
        way(0, 10, 10, 1, 3, 11, 1, 29, 29, 431, 1076);
        way(0, 10, 10, 2, 3, 0, 1, 101, 181, 90, 2349);
        way(0, 10, 10, 3, 3, 0, 0, 100, 200, 85, 2414);
        is(1037, "signal", 0, 10, 10);
    }

    private void cornerOfTheLastTwoWalls() {
        sentence("Ends that several WALLS have are one CORNER, of the least of these WALLS [the last two of them]");
        town(13, "sender 0 10 0 100;" + times(10, ASIDE) + "wall 5 8 5 12 0;wall 5 8 9 8 0;");
        bendAlone();
        is(2, "ways", 0, 10, 10);
        way(0, 10, 10, 0, 3, 10, 0, 29, 29, 431, 1076);
        way(0, 10, 10, 1, 3, 10, 1, 29, 29, 431, 1076);
    }

    private void marginOfGreatSignals() {
        sentence("BEST's SIGNAL * 100 is above (100 + MARGIN) * that of who serves [great ones]");
        town(2, "sender 5 5 0 9900;sender 7 5 1 9999;");
        is(1, "step", 5, 5);
        is(2, "step", 6, 5);
        is(9900000, "signal", 0, 6, 5);
        is(9999000, "signal", 1, 6, 5);
        yes("set", 5, 999);
        is(0, "served", 0);
        is(0, "served", 1);
        is(0, "walk", 1);
        yes("set", 5, 0);
        is(1, "served", 1);
        is(1, "walk", 1);
    }

    private void clashAtTheLastNeed() {
        sentence("Two SENDERS CLASH, if SIGNALS of both are LEAST or more at one and the same NEED [the last of 8]");
        town(9, SEVEN_FAR + "sender 0 0 0 1;sender 1 0 0 1;");
        no("clash", 0, 1);
        is(1, "count", 9);
        town(1, "need 0 0;");
        yes("clash", 0, 1);
        is(0, "colour", 0);
        is(1, "colour", 1);
        is(2, "count", 9);
    }

    private void spanOfTheLastSender() {
        sentence("POINTS at which SIGNAL of each SENDER with a SPAN lies in it [the last of 6]");
        town(6, times(5, "sender 0 0 0 1;") + "sender 5 5 1 1;");
        yes("span", 5, 1000, 1000);
        is(5, "places");
        row("place", new int[] {405, 504, 505, 506, 605, NONE});
    }

    private void heardAtTheLastNeed() {
        sentence("heard: the greatest SIGNAL of it at a NEED [the last of 8]");
        town(8, SEVEN_FAR + "sender 0 0 0 1;");
        law(2, "if heard=1000:bar;if heard=1:may;");
        is(1, "why", 0, 0);
        is(NONE, "breach", 0);
        town(1, "need 0 0;");
        is(0, "why", 0, 0);
        is(0, "breach", 0);
    }

    private void breachOfTheLastSender() {
        sentence("BREACH: the first HOUR, in it the first SENDER, that is BARRED [the last of 6]");
        town(8, "need 20 20;need 0 0;" + times(5, "sender 10 10 0 1;") + "sender 0 0 0 1;");
        law(1, "if heard>5 and hour>22:bar;");
        is(NONE, "why", 4, 23);
        is(NONE, "why", 5, 22);
        is(0, "why", 5, 23);
        is(23, "breach", 0);
        is(5, "breach", 1);
    }

    private void aloneButForTheLastSender() {
        sentence("alone: no other SENDER has its COLOUR [nor the last of 6]");
        town(6, "sender 1 1 0 1;sender 1 1 1 1;sender 1 1 2 1;sender 1 1 3 1;sender 1 1 4 1;sender 1 1 0 1;");
        law(1, "if alone:bar;");
        is(NONE, "why", 0, 0);
        is(NONE, "why", 5, 0);
        is(0, "why", 4, 0);
        is(1, "breach", 1);
        yes("pull", 0, 5);
        is(0, "why", 0, 0);
        is(0, "breach", 1);
    }
}
