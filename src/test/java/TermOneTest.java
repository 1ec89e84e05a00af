/** Term 1 of the document: points, days, walls, senders, THE VIEW, stuffs and settings at their bounds. */
public final class TermOneTest extends Trial {
    public static void main(String[] args) {
        TermOneTest test = new TermOneTest();
        test.pointsInTexts();
        test.pointsInCalls();
        test.pointsOutside();
        test.days();
        test.mostWalls();
        test.mostSenders();
        test.pulledOnesCountInAll();
        test.wallsAreStraight();
        test.stuffsOfWalls();
        test.coloursAndPowers();
        test.toldAndPulled();
        test.viewIsUpToNow();
        test.sendersThatAreNone();
        test.wallsThatAreNone();
        test.stuffsAtFirst();
        test.depth();
        test.bend();
        test.noise();
        test.share();
        test.least();
        test.finish();
    }

    private void pointsInTexts() {
        sentence("POINTS are whole, x and y 0 .. 20.");
        town(5, "wall 0 0 20 0 0;wall 20 0 20 20 0;sender 20 20 0 1;need 0 20;site 20 0 1 1;");
        badTown("wall 21 0 20 0 0;", 2, 5);
        badTown("wall 0 21 0 20 0;", 2, 7);
        badTown("wall 0 0 21 0 0;", 2, 9);
        badTown("wall 0 0 0 21 0;", 2, 11);
        badTown("sender 21 0 0 1;", 2, 7);
        badTown("sender 0 21 0 1;", 2, 9);
        badTown("need 21 0;", 2, 5);
        badTown("need 0 21;", 2, 7);
        badTown("need 9999 0;", 2, 5);
        badTown("site 21 0 1 1;", 2, 5);
        badTown("site 0 21 1 1;", 2, 7);
    }

    private void pointsInCalls() {
        sentence("POINTS are whole, x and y 0 .. 20.");
        town(1, "sender 10 10 0 9;");
        for (int corner = 0; corner < 4; corner++) {
            int x = corner % 2 * 20;
            int y = corner / 2 * 20;
            yes("sees", 0, x, y);
            is(1, "ways", 0, x, y);
            is(200, "way", 0, x, y, 0, 3);
            is(0, "compare", 0, 0, 0, 0, x, y);
            is(45, "signal", 0, x, y);
            is(1, "heard", x, y);
            is(0, "best", x, y);
            is(corner + 1, "step", x, y);
            // The line lies one behind the sender, eleven behind the point: 12 * 12 + 10 * 10.
            is(x == 0 ? 11 : 9, "echo", 0, x, y, 244, 0);
        }
    }

    private void pointsOutside() {
        sentence("POINTS are whole, x and y 0 .. 20.");
        town(1, "sender 10 10 0 9;");
        int[] numbers = {-1, 21, -20, 41, LEAST_INT, MOST_INT};
        for (int number : numbers) {
            for (int turned = 0; turned < 2; turned++) {
                int x = turned == 0 ? number : 0;
                int y = turned == 0 ? 0 : number;
                no("sees", 0, x, y);
                is(NONE, "ways", 0, x, y);
                is(ABSENT, "way", 0, x, y, 0, 0);
                is(ABSENT, "compare", 0, 0, 0, 0, x, y);
                is(NONE, "signal", 0, x, y);
                is(NONE, "heard", x, y);
                is(NONE, "best", x, y);
                is(NONE, "step", x, y);
                // It would be due of (21, 0) and (-1, 0): 13 * 13 + 10 * 10.
                is(NONE, "echo", 0, x, y, 269, 0);
            }
        }
        is(0, "walk", 0);
    }

    private void days() {
        sentence("DAYS go from 0 on, to 999.");
        is(0, "count", 6);
        no("day", -1);
        yes("day", 0);
        yes("day", 998);
        yes("day", 999);
        no("day", 1000);
        is(999, "count", 6);
        town(1, "wall 0 0 1 0 0;");
        is(999, "wall", 0, 5);
        yes("pull", 1, 0);
        is(999, "wall", 0, 6);
        yes("view", 999);
        yes("view", 0);
        no("view", 1000);
    }

    private void mostWalls() {
        sentence("WALLS, at most 12 in all, from 0 on");
        most("wall 0 0 0 5 0;", 12, 2);
        is(5, "wall", 0, 3);
        is(5, "wall", 11, 3);
        is(ABSENT, "wall", 12, 3);
    }

    private void mostSenders() {
        sentence("SENDERS, at most 6 in all, from 0 on");
        most("sender 0 0 0 9;", 6, 3);
        is(9, "sender", 0, 3);
        is(9, "sender", 5, 3);
        is(ABSENT, "sender", 6, 3);
    }

    private void pulledOnesCountInAll() {
        sentence("at most 12 in all .. at most 6 in all");
        town(12, times(12, "wall 0 0 0 5 0;"));
        town(6, times(6, "sender 0 0 0 9;"));
        for (int k = 0; k < 12; k++) {
            yes("pull", 1, k);
        }
        for (int k = 0; k < 6; k++) {
            yes("pull", 0, k);
        }
        yes("day", 9);
        is(0, "count", 0);
        is(0, "count", 1);
        town(NONE, "wall 0 0 0 5 0;");
        fault(4, 0);
        town(NONE, "sender 0 0 0 9;");
        fault(4, 0);
        is(12, "count", 2);
        is(6, "count", 3);
    }

    private void wallsAreStraight() {
        sentence("go from a POINT to another one with the same x or the same y");
        town(4, "wall 3 3 3 4 0;wall 3 3 2 3 0;wall 0 7 20 7 0;wall 7 20 7 0 0;");
        row("wall", new int[] {3, 3, 3, 4}, 0);
        row("wall", new int[] {2, 3, 3, 3}, 1);
        row("wall", new int[] {0, 7, 20, 7}, 2);
        row("wall", new int[] {7, 0, 7, 20}, 3);
        badTown("wall 3 3 3 3 0;", 3, 0);
        badTown("wall 0 0 0 0 0;", 3, 0);
        badTown("wall 3 3 4 4 0;", 3, 0);
        badTown("wall 3 4 4 3 0;", 3, 0);
        badTown("wall 0 0 20 1 0;", 3, 0);
    }

    private void stuffsOfWalls() {
        sentence("they have a STUFF, 0 .. 4");
        town(2, "wall 0 0 0 1 0;wall 0 0 0 1 4;");
        is(0, "wall", 0, 4);
        is(4, "wall", 1, 4);
        badTown("wall 0 0 0 1 5;", 2, 13);
        badTown("wall 0 0 0 1 9999;", 2, 13);
    }

    private void coloursAndPowers() {
        sentence("have a POINT, a COLOUR, 0 .. 5, a POWER, 1 .. 9999");
        town(2, "sender 0 0 0 1;sender 0 0 5 9999;");
        row("sender", new int[] {0, 0, 0, 1}, 0);
        row("sender", new int[] {0, 0, 5, 9999}, 1);
        badTown("sender 0 0 6 1;", 2, 11);
        badTown("sender 0 0 0 0;", 2, 13);
        badTown("sender 0 0 0 0000;", 2, 13);
        badTown("sender 0 0 0 10000;", 1, 13);
    }

    private void toldAndPulled() {
        sentence("the WALLS and SENDERS that were told by the end of that DAY, and not pulled down by then");
        yes("day", 3);
        town(2, "wall 0 0 0 1 0;sender 5 5 0 1;");
        yes("day", 5);
        yes("pull", 1, 0);
        yes("pull", 0, 0);
        int[] standing = {0, 0, 0, 1, 1, 0};
        for (int day = 0; day < standing.length; day++) {
            yes("view", day);
            is(standing[day], "count", 0);
            is(standing[day], "count", 1);
            is(standing[day] == 1 ? 1000 : NONE, "signal", 0, 5, 5);
        }
        yes("view", NONE);
        is(0, "count", 0);
        is(0, "count", 1);
        yes("day", 7);
        town(2, "wall 0 0 0 1 0;sender 5 5 0 1;");
        is(1, "count", 0);
        is(1, "count", 1);
        yes("pull", 1, 1);
        yes("pull", 0, 1);
        for (int day = 5; day <= 7; day++) {
            yes("view", day);
            is(0, "count", 0);
            is(0, "count", 1);
        }
    }

    private void viewIsUpToNow() {
        sentence("THE VIEW is a DAY up to now, or NOW (at first)");
        is(NONE, "count", 7);
        yes("day", 5);
        is(NONE, "count", 7);
        town(1, "wall 0 0 0 1 0;");
        is(1, "count", 0);
        no("view", 6);
        yes("view", 4);
        is(0, "count", 0);
        yes("view", 5);
        is(1, "count", 0);
        yes("day", 6);
        town(1, "wall 0 0 0 1 0;");
        is(5, "count", 7);
        is(1, "count", 0);
        yes("view", 6);
        is(2, "count", 0);
        yes("view", NONE);
        is(2, "count", 0);
        yes("day", 999);
        is(2, "count", 0);
    }

    private void sendersThatAreNone() {
        sentence("all that is asked from 2. on is asked by [these]; the others are none");
        town(3, "sender 4 4 0 9;sender 4 4 0 5;need 4 4;");
        law(1, "if alone:bar;");
        yes("day", 1);
        yes("span", 0, 0, 8999);
        // All but its own place and the four beside it.
        is(436, "places");
        is(NONE, "breach", 0);
        yes("clash", 0, 1);
        yes("pull", 0, 0);
        no("sees", 0, 4, 4);
        is(NONE, "ways", 0, 4, 4);
        is(ABSENT, "way", 0, 4, 4, 0, 0);
        is(ABSENT, "compare", 0, 0, 1, 0, 4, 4);
        is(ABSENT, "compare", 1, 0, 0, 0, 4, 4);
        is(NONE, "signal", 0, 4, 4);
        is(2, "heard", 4, 4);
        is(1, "best", 4, 4);
        is(1, "step", 4, 4);
        is(1, "served", 0);
        no("clash", 0, 1);
        is(NONE, "colour", 0);
        is(0, "colour", 1);
        is(1, "count", 9);
        is(441, "places");
        is(NONE, "echo", 0, 4, 4, 4, 0);
        is(3, "echo", 1, 4, 4, 4, 0);
        is(NONE, "why", 0, 0);
        is(0, "why", 1, 0);
        is(0, "breach", 0);
        is(1, "breach", 1);
        yes("view", 0);
        is(436, "places");
        is(1, "heard", 4, 4);
        is(0, "served", 0);
        is(NONE, "breach", 0);
        is(3, "echo", 0, 4, 4, 4, 0);
    }

    private void wallsThatAreNone() {
        sentence("all that is asked from 2. on is asked by [these]; the others are none");
        town(4, "sender 2 5 0 100;wall 5 4 5 10 0;need 2 5;site 2 5 100 1;");
        yes("set", 1, 50);
        yes("day", 1);
        // By sight 100000, by the mirror 100000 / 36 / 2.
        is(101388, "signal", 0, 2, 5);
        is(101388, "serves", 0, 0);
        no("sees", 0, 8, 5);
        is(2, "ways", 0, 8, 5);
        yes("pull", 1, 0);
        is(100000, "signal", 0, 2, 5);
        is(100000, "serves", 0, 0);
        yes("sees", 0, 8, 5);
        is(1, "ways", 0, 8, 5);
        town(1, "wall 5 10 5 3 0;");
        is(2, "ways", 0, 8, 5);
        // Round (5, 3): of the walls that there are the least one has it.
        way(0, 8, 5, 0, 3, 1, 0, 13, 13);
        way(0, 8, 5, 1, 3, 1, 1, 34, 34);
        yes("view", 0);
        way(0, 8, 5, 0, 3, 0, 0, 10, 10);
        way(0, 8, 5, 1, 3, 0, 1, 34, 34);
    }

    private void stuffsAtFirst() {
        sentence("STUFFS have BACK and THROUGH, 0 .. 100 (50 and 0 at first).");
        for (int stuff = 0; stuff < 5; stuff++) {
            anew();
            StringBuilder text = new StringBuilder("sender 1 0 0 4;");
            text.append("wall 0 0 0 5 ").append(stuff).append(";wall 3 0 3 5 ").append(stuff).append(';');
            town(3, text.toString());
            // By sight 4000, by the mirrors 4000 / 4 and 4000 / 16 by 50.
            is(4000 + 500 + 125, "signal", 0, 1, 0);
            is(0, "ways", 0, 4, 0);
            yes("stuff", stuff, 0, 100);
            is(4000, "signal", 0, 1, 0);
            is(3, "ways", 0, 1, 0);
            is(444, "signal", 0, 4, 0);
            yes("stuff", stuff, 100, 0);
            is(4000 + 1000 + 250, "signal", 0, 1, 0);
            is(0, "ways", 0, 4, 0);
        }
    }

    private void depth() {
        sentence("DEPTH is 0 .. 2 (1 at first)");
        town(3, "sender 4 5 0 324;wall 0 0 0 20 0;wall 10 0 10 20 0;");
        is(3, "ways", 0, 6, 5);
        yes("set", 0, 0);
        is(1, "ways", 0, 6, 5);
        no("set", 0, -1);
        is(1, "ways", 0, 6, 5);
        yes("set", 0, 2);
        is(5, "ways", 0, 6, 5);
        no("set", 0, 3);
        is(5, "ways", 0, 6, 5);
        yes("set", 0, 1);
        is(3, "ways", 0, 6, 5);
    }

    private void bend() {
        sentence("BEND 0 .. 100 (0 at first)");
        town(2, "sender 2 5 0 100;wall 5 0 5 10 0;");
        is(0, "ways", 0, 8, 5);
        yes("set", 1, 1);
        is(2, "ways", 0, 8, 5);
        // 100000 / (34 + 34 + 68) = 735; by 1: 7.
        is(14, "signal", 0, 8, 5);
        yes("set", 1, 100);
        is(1470, "signal", 0, 8, 5);
        no("set", 1, 101);
        no("set", 1, -1);
        is(1470, "signal", 0, 8, 5);
        yes("set", 1, 0);
        is(0, "ways", 0, 8, 5);
    }

    private void noise() {
        sentence("NOISE 0 .. 9999 (1 at first)");
        // 100 at (0, 10), 99 at (1, 10).
        town(1, "sender 0 0 0 10;");
        yes("set", 3, 9999);
        is(100, "signal", 0, 0, 10);
        is(1, "heard", 0, 10);
        is(99, "signal", 0, 1, 10);
        is(0, "heard", 1, 10);
        yes("set", 2, 0);
        is(1, "heard", 1, 10);
        no("set", 2, -1);
        is(1, "heard", 1, 10);
        yes("set", 3, 100);
        yes("set", 2, 9999);
        is(10000, "signal", 0, 1, 0);
        is(1, "heard", 1, 0);
        is(0, "heard", 1, 1);
        no("set", 2, 10000);
        is(1, "heard", 1, 0);
    }

    private void share() {
        sentence("SHARE 0 .. 9999 (100 at first)");
        town(1, "sender 0 0 0 10;");
        yes("set", 2, 100);
        is(1, "heard", 0, 10);
        is(0, "heard", 1, 10);
        yes("set", 3, 0);
        is(1, "heard", 1, 10);
        no("set", 3, -1);
        is(1, "heard", 1, 10);
        yes("set", 3, 9999);
        // 10000 * 100 against 9999 * 100, 5000 * 100 against that.
        is(1, "heard", 1, 0);
        is(0, "heard", 1, 1);
        no("set", 3, 10000);
        is(1, "heard", 1, 0);
    }

    private void least() {
        sentence("LEAST 1 .. 9999 (10 at first)");
        town(2, "need 0 10;site 1 0 1 1;");
        is(9, "serves", 0, 0);
        is(NONE, "cover", 2);
        town(1, "site 0 0 1 1;");
        is(10, "serves", 1, 0);
        is(2, "cover", 2);
        town(1, "need 0 20;");
        is(2, "serves", 1, 1);
        is(NONE, "cover", 0);
        yes("set", 4, 2);
        is(1, "cover", 2);
        yes("set", 4, 1);
        no("set", 4, 0);
        is(1, "cover", 2);
        yes("set", 4, 9999);
        is(NONE, "cover", 0);
        no("set", 4, 10000);
        anew();
        town(2, "need 0 0;site 0 1 10 1;");
        yes("set", 4, 9999);
        is(1, "cover", 2);
    }
}
