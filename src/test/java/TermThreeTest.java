/** Term 3 of the document: a walk, who serves in it, wishes, changes and lost seconds. */
public final class TermThreeTest extends Trial {
    /** Signals at (x, 0): 100000 by the squares of x, 10 - x, 20 - x, and none of one colour. */
    private static final String ROW = "sender 0 0 0 100;sender 10 0 1 100;sender 20 0 2 100;";

    public static void main(String[] args) {
        TermThreeTest test = new TermThreeTest();
        test.mostPoints();
        test.noneServedAhead();
        test.notHeardAnyMore();
        test.lost();
        test.bestIsAnother();
        test.marginAtFirst();
        test.marginBounds();
        test.holdAtFirst();
        test.holdBounds();
        test.oneBehindTheOther();
        test.wishesOfSeveral();
        test.noWishesAsAnotherServes();
        test.noWishesAsNoneServes();
        test.changes();
        test.walkByTheView();
        test.finish();
    }

    private void steps(int... xs) {
        for (int k = 0; k < xs.length; k++) {
            is(k + 1, "step", xs[k], 0);
        }
    }

    private void serve(int... due) {
        row("served", due);
        is(NONE, "served", due.length);
        is(due.length, "walk", 0);
    }

    private void mostPoints() {
        sentence("A WALK has at most 60 POINTS, one a second.");
        town(3, ROW);
        for (int k = 1; k <= 60; k++) {
            is(k, "step", k <= 59 ? 0 : 20, 0);
        }
        is(NONE, "step", 10, 0);
        is(60, "walk", 0);
        is(0, "served", 58);
        is(2, "served", 59);
        is(NONE, "served", 60);
        is(1, "walk", 1);
        is(NONE, "step", 21, 0);
    }

    private void noneServedAhead() {
        sentence("if none served ahead, or who did is not HEARD: BEST");
        town(3, ROW);
        yes("set", 5, 999);
        yes("set", 6, 9);
        steps(10);
        serve(1);
    }

    private void notHeardAnyMore() {
        sentence("if none served ahead, or who did is not HEARD: BEST");
        town(3, ROW);
        yes("set", 6, 9);
        // At 10 sender 0 has 1000, at 11 it has 826.
        yes("set", 2, 1000);
        steps(0, 10, 11);
        serve(0, 0, 1);
        yes("set", 2, 1001);
        serve(0, 1, 1);
        yes("set", 2, 826);
        serve(0, 0, 0);
    }

    private void lost() {
        sentence("(none, if none is HEARD: LOST)");
        town(3, ROW);
        yes("set", 6, 9);
        // At 5 two have 4000 and one has 444.
        yes("set", 2, 4000);
        steps(0, 5, 10);
        serve(0, 0, 1);
        is(0, "walk", 2);
        yes("set", 2, 4001);
        serve(0, NONE, 1);
        is(1, "walk", 2);
        is(0, "walk", 1);
        yes("set", 2, 9999);
        yes("set", 3, 9999);
        serve(NONE, NONE, NONE);
        is(3, "walk", 2);
        is(0, "walk", 1);
        anew();
        steps(0, 20);
        serve(NONE, NONE);
        is(2, "walk", 2);
    }

    private void bestIsAnother() {
        sentence("Else, if BEST is another one, and BEST's SIGNAL * 100 is above (100 + MARGIN) * that of who serves");
        town(3, ROW);
        yes("set", 5, 0);
        // At 5 senders 0 and 1 are alike, and BEST is the least of them.
        steps(10, 5, 6, 5, 4);
        is(0, "best", 5, 0);
        serve(1, 1, 1, 1, 0);
    }

    private void marginAtFirst() {
        sentence("MARGIN 0 .. 999 (10 at first)");
        // 100 against 110 at (10, 0).
        town(2, "sender 0 0 0 10;sender 20 0 1 11;");
        steps(0, 10);
        is(110, "signal", 1, 10, 0);
        serve(0, 0);
        yes("set", 5, 9);
        serve(0, 1);
        // 100 against 111.
        anew();
        town(2, "sender 0 0 0 10;sender 19 0 1 9;");
        steps(0, 10);
        is(111, "signal", 1, 10, 0);
        serve(0, 1);
        yes("set", 5, 11);
        serve(0, 0);
    }

    private void marginBounds() {
        sentence("MARGIN 0 .. 999 (10 at first)");
        // 100 against 1099 at (10, 0).
        town(2, "sender 0 0 0 10;sender 20 1 1 111;");
        steps(0, 10);
        is(1099, "signal", 1, 10, 0);
        yes("set", 5, 999);
        serve(0, 0);
        no("set", 5, 1000);
        serve(0, 0);
        yes("set", 5, 998);
        serve(0, 1);
        no("set", 5, -1);
        serve(0, 1);
        anew();
        town(2, "sender 0 0 0 10;sender 20 0 1 110;");
        steps(0, 10);
        yes("set", 5, 999);
        serve(0, 1);
        // 1000 against 1010 without a margin.
        anew();
        town(2, "sender 0 0 0 100;sender 20 0 1 101;");
        yes("set", 5, 0);
        steps(0, 10);
        serve(0, 1);
    }

    private void holdAtFirst() {
        sentence("HOLD 1 .. 9 (1 at first)");
        town(3, ROW);
        steps(0, 10, 20, 0);
        serve(0, 1, 2, 0);
        is(3, "walk", 1);
        no("set", 6, 0);
        serve(0, 1, 2, 0);
    }

    private void holdBounds() {
        sentence("as there are HOLD WISHES .. BEST serves from this second on; HOLD 1 .. 9");
        town(3, ROW);
        steps(0, 10, 10, 10, 10, 10, 10, 10, 10, 10, 10);
        for (int hold = 1; hold <= 9; hold++) {
            yes("set", 6, hold);
            for (int second = 0; second <= 10; second++) {
                is(second < hold ? 0 : 1, "served", second);
            }
            is(1, "walk", 1);
        }
        no("set", 6, 10);
        is(0, "served", 8);
        is(1, "served", 9);
    }

    private void oneBehindTheOther() {
        sentence("HOLD WISHES in seconds one behind the other .. if not: no WISHES");
        town(3, ROW);
        yes("set", 6, 3);
        // At 5 there is no wish, as both are alike.
        steps(0, 10, 10, 5, 10, 0, 10, 10, 10, 10);
        serve(0, 0, 0, 0, 0, 0, 0, 0, 1, 1);
    }

    private void wishesOfSeveral() {
        sentence("as there are HOLD WISHES in seconds one behind the other, BEST serves from this second on");
        town(3, ROW);
        yes("set", 6, 2);
        steps(0, 10, 20, 10);
        serve(0, 0, 2, 2);
    }

    private void noWishesAsAnotherServes() {
        sentence("(As another one serves, or none, there are no WISHES.)");
        town(3, ROW);
        yes("set", 6, 2);
        steps(0, 10, 10, 20, 20, 10, 10);
        serve(0, 0, 1, 1, 2, 2, 1);
        // At 20 sender 0 is not heard, and 2 serves at once; the wish of the second ahead is gone.
        anew();
        town(3, ROW);
        yes("set", 6, 2);
        yes("set", 2, 1000);
        steps(0, 10, 20, 10, 10);
        serve(0, 0, 2, 2, 1);
    }

    private void noWishesAsNoneServes() {
        sentence("(As another one serves, or none, there are no WISHES.)");
        town(3, ROW);
        yes("set", 6, 2);
        yes("set", 2, 1000);
        is(1, "step", 0, 0);
        is(2, "step", 10, 0);
        is(3, "step", 10, 20);
        is(4, "step", 0, 0);
        is(5, "step", 10, 0);
        is(6, "step", 10, 0);
        serve(0, 0, NONE, 0, 0, 1);
    }

    private void changes() {
        sentence("CHANGES: seconds in which another one SERVED than in the second ahead, both some.");
        town(3, ROW);
        is(0, "walk", 1);
        yes("set", 2, 5000);
        // At 5 and 15 none is heard.
        steps(0, 0, 5, 10, 20, 15, 15, 20, 0, 10);
        serve(0, 0, NONE, 1, 2, NONE, NONE, 2, 0, 1);
        is(3, "walk", 1);
        is(3, "walk", 2);
    }

    private void walkByTheView() {
        sentence("SERVED second by second, by the SENDERS of THE VIEW");
        town(3, ROW);
        steps(0, 10, 20);
        yes("day", 1);
        yes("pull", 0, 1);
        // At 10 sender 0 is as strong as sender 2.
        serve(0, 0, 2);
        yes("view", 0);
        serve(0, 1, 2);
        yes("view", NONE);
        serve(0, 0, 2);
    }
}
