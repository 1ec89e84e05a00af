/** Promises 20 to 37 of the document: each sentence that names a boundary case. */
public final class MoreBoundariesTest extends Trial {
    private static final int BLANKS = 0x20202020;

    public static void main(String[] args) {
        MoreBoundariesTest test = new MoreBoundariesTest();
        test.best();
        test.step();
        test.stepRefused();
        test.unwalk();
        test.served();
        test.walk();
        test.cover();
        test.serves();
        test.clash();
        test.colour();
        test.span();
        test.spanIsNoneAnyMore();
        test.spanRefused();
        test.spanOfAllSenders();
        test.places();
        test.place();
        test.echo();
        test.why();
        test.breach();
        test.count();
        test.countOfAnotherWhat();
        test.image();
        test.imageOfAllThatIsTold();
        test.imageOfTheTape();
        test.imageOfTheFullest();
        test.imageInItsPlace();
        test.againRefused();
        test.otherImagesStay();
        test.finish();
    }

    private void best() {
        sentence("20: BEST at a POINT. NONE: none, or there is no such POINT.");
        is(NONE, "best", 0, 0);
        town(6, times(5, "sender 0 0 0 9;") + "sender 0 0 1 1;");
        is(5, "best", 0, 0);
        yes("pull", 0, 5);
        is(NONE, "best", 0, 0);
        yes("set", 3, 25);
        yes("set", 2, 0);
        is(0, "best", 0, 0);
        is(0, "best", 20, 20);
        is(NONE, "best", 21, 20);
        is(NONE, "best", 20, 21);
        is(NONE, "best", -1, 0);
        is(NONE, "best", 0, -1);
        for (int far : FAR) {
            is(NONE, "best", far, 0);
            is(NONE, "best", 0, far);
        }
    }

    private void step() {
        sentence("21: A POINT comes to the WALK: how many there are.");
        for (int k = 1; k <= 60; k++) {
            is(k, "step", k % 21, 20 - k % 21);
            is(k, "walk", 0);
        }
        is(60, "walk", 2);
    }

    private void stepRefused() {
        sentence("21: NONE: there are 60, or there is none such.");
        is(NONE, "step", 21, 0);
        is(NONE, "step", 0, 21);
        is(NONE, "step", -1, 0);
        is(NONE, "step", 0, -1);
        for (int far : FAR) {
            is(NONE, "step", far, 0);
            is(NONE, "step", 0, far);
        }
        is(0, "walk", 0);
        for (int k = 1; k <= 60; k++) {
            is(k, "step", 0, 0);
        }
        is(NONE, "step", 0, 0);
        is(NONE, "step", 21, 0);
        is(60, "walk", 0);
    }

    private void unwalk() {
        sentence("22: The WALK is empty.");
        is(0, "unwalk");
        is(0, "walk", 0);
        town(2, "sender 0 0 0 9;sender 20 0 1 9;");
        for (int k = 1; k <= 60; k++) {
            is(k, "step", k % 2 * 20, 0);
        }
        is(59, "walk", 1);
        is(0, "unwalk");
        row("walk", new int[] {0, 0, 0, NONE});
        is(NONE, "served", 0);
        is(NONE, "served", 59);
        is(1, "step", 0, 0);
        is(0, "served", 0);
        is(NONE, "served", 1);
        row("walk", new int[] {1, 0, 0, NONE});
        // The town is as it was.
        row("count", new int[] {0, 2, 0, 2});
    }

    private void served() {
        sentence("23: Who SERVED in a second, from 0 on. NONE: none (LOST), or there is no such second.");
        is(NONE, "served", 0);
        town(6, times(5, "sender 0 0 0 9;") + "sender 20 0 1 9;");
        is(1, "step", 20, 0);
        is(2, "step", 0, 0);
        is(5, "served", 0);
        is(5, "served", 1);
        is(NONE, "served", 2);
        is(NONE, "served", -1);
        is(NONE, "served", 59);
        is(NONE, "served", 60);
        for (int far : FAR) {
            is(NONE, "served", far);
        }
        yes("set", 2, 23);
        // 9000 / 400 = 22 is not heard any more, and the others drown each other.
        is(NONE, "served", 1);
        is(1, "walk", 2);
    }

    private void walk() {
        sentence("24: Of the WALK, what 0: seconds, 1: CHANGES, 2: LOST ones. NONE for another what.");
        row("walk", new int[] {0, 0, 0, NONE});
        is(1, "step", 0, 0);
        row("walk", new int[] {1, 0, 1, NONE});
        is(NONE, "walk", -1);
        for (int far : FAR) {
            is(NONE, "walk", far);
        }
        town(2, "sender 0 0 0 9;sender 20 0 1 9;");
        row("walk", new int[] {1, 0, 0, NONE});
        is(2, "step", 20, 0);
        row("walk", new int[] {2, 1, 0, NONE});
        anew();
        town(2, "sender 0 0 0 9;sender 20 0 1 9;");
        for (int k = 1; k <= 60; k++) {
            is(k, "step", k % 2 * 20, 0);
        }
        row("walk", new int[] {60, 59, 0, NONE});
    }

    private void cover() {
        sentence("25: COVER, what 0: COST, 1: how many, 2: the set. NONE: there is none, or for another what.");
        row("cover", new int[] {0, 0, 0, NONE});
        town(1, "need 3 3;");
        row("cover", new int[] {NONE, NONE, NONE, NONE});
        town(2, "site 20 20 1 1;site 3 3 1 8;");
        row("cover", new int[] {8, 1, 2, NONE});
        is(NONE, "cover", -1);
        for (int far : FAR) {
            is(NONE, "cover", far);
        }
    }

    private void serves() {
        sentence("26: SIGNAL that a SITE would have at a NEED. NONE: there are none such.");
        is(NONE, "serves", 0, 0);
        town(1, "need 3 3;");
        is(NONE, "serves", 0, 0);
        town(3, "site 3 3 1 1;site 3 4 1 1;wall 0 5 20 5 0;");
        yes("stuff", 0, 0, 0);
        town(1, "need 3 6;");
        is(1000, "serves", 0, 0);
        is(1000, "serves", 1, 0);
        is(0, "serves", 0, 1);
        is(NONE, "serves", 2, 0);
        is(NONE, "serves", 0, 2);
        is(NONE, "serves", -1, 0);
        is(NONE, "serves", 0, -1);
        is(NONE, "serves", 8, 0);
        is(NONE, "serves", 0, 8);
        for (int far : FAR) {
            is(NONE, "serves", far, 0);
            is(NONE, "serves", 0, far);
        }
    }

    private void clash() {
        sentence("27: Whether two SENDERS CLASH. False, too, if there are none such, or they are one.");
        no("clash", 0, 1);
        town(4, "need 3 3;sender 3 3 0 1;sender 3 3 1 1;sender 3 3 2 1;");
        yes("clash", 0, 1);
        yes("clash", 1, 0);
        yes("clash", 2, 0);
        no("clash", 0, 0);
        no("clash", 2, 2);
        no("clash", 0, 3);
        no("clash", 3, 0);
        no("clash", -1, 0);
        no("clash", 0, -1);
        no("clash", 0, 6);
        for (int far : FAR) {
            no("clash", far, 0);
            no("clash", 0, far);
            no("clash", far, far);
        }
        yes("pull", 0, 1);
        no("clash", 0, 1);
        no("clash", 1, 2);
        yes("clash", 0, 2);
    }

    private void colour() {
        sentence("28: The number of a SENDER by the COLOURING. NONE: there is none such.");
        is(NONE, "colour", 0);
        town(7, "need 3 3;" + times(6, "sender 3 3 5 1;"));
        row("colour", new int[] {0, 1, 2, 3, 4, 5, NONE});
        is(NONE, "colour", -1);
        for (int far : FAR) {
            is(NONE, "colour", far);
        }
        yes("pull", 0, 0);
        row("colour", new int[] {NONE, 0, 1, 2, 3, 4, NONE});
        yes("set", 4, 1001);
        row("colour", new int[] {NONE, 0, 0, 0, 0, 0, NONE});
    }

    private void span() {
        sentence("29: A SPAN of a SENDER (0 .. 1000000000): true");
        town(2, "sender 10 10 0 9;sender 10 10 0 9;");
        yes("span", 0, 0, 1000000000);
        is(441, "places");
        yes("span", 0, 1000000000, 1000000000);
        is(0, "places");
        yes("span", 0, 0, 0);
        is(0, "places");
        yes("span", 0, 9000, 9000);
        is(5, "places");
        yes("span", 1, 0, 8999);
        is(0, "places");
    }

    private void spanIsNoneAnyMore() {
        sentence("29: a NONE: it has none any more");
        town(2, "sender 10 10 0 9;sender 10 10 0 9;");
        yes("span", 0, NONE, 0);
        is(441, "places");
        yes("span", 0, 0, 0);
        yes("span", 1, 9000, 9000);
        is(0, "places");
        yes("span", 0, NONE, NONE);
        is(5, "places");
        yes("span", 1, NONE, 5);
        is(441, "places");
    }

    private void spanRefused() {
        sentence("29: false: there is none such SENDER (in all), a above b, or other numbers.");
        no("span", 0, 0, 1);
        no("span", 0, NONE, 0);
        town(1, "sender 10 10 0 9;");
        yes("span", 0, 9000, 9000);
        no("span", 1, 0, 1);
        no("span", -1, 0, 1);
        no("span", 6, 0, 1);
        no("span", 1, NONE, 0);
        no("span", 0, 1, 0);
        no("span", 0, 1000000000, 999999999);
        no("span", 0, -2, 0);
        no("span", 0, -2, -2);
        no("span", 0, LEAST_INT, 0);
        no("span", 0, 0, 1000000001);
        no("span", 0, 1000000001, 1000000001);
        no("span", 0, 0, MOST_INT);
        no("span", 0, MOST_INT, MOST_INT);
        no("span", 0, 0, -1);
        no("span", 0, 0, LEAST_INT);
        for (int far : FAR) {
            no("span", far, 0, 1);
        }
        is(5, "places");
    }

    private void spanOfAllSenders() {
        sentence("29: there is none such SENDER (in all)");
        town(1, "sender 10 10 0 9;");
        yes("day", 2);
        yes("pull", 0, 0);
        yes("span", 0, 9000, 9000);
        is(441, "places");
        yes("view", 1);
        is(5, "places");
        town(1, "sender 10 10 0 9;");
        yes("span", 1, 0, 0);
        is(5, "places");
        yes("view", NONE);
        is(0, "places");
        yes("span", 0, NONE, 0);
        yes("view", 1);
        is(441, "places");
    }

    private void places() {
        sentence("30: How many PLACES fit. [none, and all]");
        is(441, "places");
        town(1, "sender 0 0 0 1;");
        is(441, "places");
        yes("span", 0, 1, 1);
        // 1000 / D is 1: D from 501 to 800.
        int due = 0;
        for (int x = 0; x <= 20; x++) {
            for (int y = 0; y <= 20; y++) {
                due += x * x + y * y > 500 ? 1 : 0;
            }
        }
        is(due, "places");
        yes("span", 0, 0, 0);
        is(0, "places");
    }

    private void place() {
        sentence("31: The k-th PLACE that fits, from 0 on: 100 * y + x. NONE: there is none such.");
        is(0, "place", 0);
        is(2020, "place", 440);
        is(NONE, "place", 441);
        is(NONE, "place", -1);
        for (int far : FAR) {
            is(NONE, "place", far);
        }
        town(1, "sender 20 20 0 1;");
        yes("span", 0, 1000, 1000);
        row("place", new int[] {1920, 2019, 2020, NONE});
        is(NONE, "place", -1);
        yes("span", 0, 0, 0);
        is(NONE, "place", 0);
    }

    private void echo() {
        sentence("32: The k-th line of ECHO, from 0 on. NONE: there is none such (of any).");
        is(NONE, "echo", 0, 5, 5, 16, 0);
        town(1, "sender 5 5 0 1;");
        row("echo", new int[] {3, 7, 103, 107, NONE}, 0, 5, 5, 16);
        is(NONE, "echo", 0, 5, 5, 16, -1);
        is(NONE, "echo", 0, 5, 5, 15, 0);
        is(NONE, "echo", 0, 5, 5, 0, 0);
        is(NONE, "echo", 0, 5, 5, -16, 0);
        is(NONE, "echo", 1, 5, 5, 16, 0);
        is(NONE, "echo", -1, 5, 5, 16, 0);
        is(NONE, "echo", 6, 5, 5, 16, 0);
        is(NONE, "echo", 0, 21, 5, 324, 0);
        is(NONE, "echo", 0, 5, -1, 64, 0);
        for (int far : FAR) {
            for (int k = 0; k < 5; k++) {
                int[] numbers = {0, 5, 5, 16, 0};
                numbers[k] = far;
                is(NONE, "echo", numbers);
            }
        }
        yes("pull", 0, 0);
        is(NONE, "echo", 0, 5, 5, 16, 0);
    }

    private void why() {
        sentence("33: The LINE of LAW that tells of a SENDER in an HOUR. NONE: none, or there is none such (of either).");
        law(1, "bar;");
        is(NONE, "why", 0, 0);
        town(1, "sender 5 5 0 1;");
        is(0, "why", 0, 0);
        is(0, "why", 0, 23);
        is(NONE, "why", 0, 24);
        is(NONE, "why", 0, -1);
        is(NONE, "why", 1, 0);
        is(NONE, "why", -1, 0);
        is(NONE, "why", 6, 0);
        for (int far : FAR) {
            is(NONE, "why", far, 0);
            is(NONE, "why", 0, far);
        }
        yes("pull", 0, 0);
        is(NONE, "why", 0, 0);
        town(1, "sender 5 5 0 1;");
        is(0, "why", 1, 0);
        is(0, "law");
        is(NONE, "why", 1, 0);
    }

    private void breach() {
        sentence("34: BREACH, what 0: the HOUR, 1: the SENDER. NONE: there is none, or for another what.");
        row("breach", new int[] {NONE, NONE, NONE});
        law(1, "bar;");
        row("breach", new int[] {NONE, NONE, NONE});
        town(2, "sender 5 5 0 1;sender 5 6 0 1;");
        row("breach", new int[] {0, 0, NONE});
        is(NONE, "breach", -1);
        for (int far : FAR) {
            is(NONE, "breach", far);
        }
        law(1, "if hour=23 and y=6:bar;");
        row("breach", new int[] {23, 1, NONE});
        yes("pull", 0, 1);
        row("breach", new int[] {NONE, NONE, NONE});
        law(1, "bar;");
        yes("pull", 0, 0);
        row("breach", new int[] {NONE, NONE, NONE});
    }

    private void count() {
        sentence("35: 0 WALLS, 1 SENDERS (both by THE VIEW), 2 WALLS in all, 3 SENDERS in all, ..");
        town(12, times(12, "wall 0 0 0 5 0;"));
        town(6, times(6, "sender 1 1 1 1;"));
        town(16, times(8, "site 1 1 1 1;") + times(8, "need 1 1;"));
        law(16, times(16, "may;"));
        row("count", new int[] {12, 6, 12, 6, 8, 8, 0, NONE, 16, 6, ABSENT});
        yes("day", 999);
        yes("view", 998);
        yes("pull", 1, 11);
        yes("pull", 0, 5);
        row("count", new int[] {12, 6, 12, 6, 8, 8, 999, 998, 16, 6, ABSENT});
        yes("view", 999);
        row("count", new int[] {11, 5, 12, 6, 8, 8, 999, 999, 16, 5, ABSENT});
        yes("view", NONE);
        row("count", new int[] {11, 5, 12, 6, 8, 8, 999, NONE, 16, 5, ABSENT});
    }

    private void countOfAnotherWhat() {
        sentence("35: -2 for another what.");
        is(ABSENT, "count", 10);
        is(ABSENT, "count", -1);
        is(ABSENT, "count", -2);
        for (int far : FAR) {
            is(ABSENT, "count", far);
        }
    }

    private void image() {
        sentence("36: Image k (0 .. 2) is all that is told: true; false for another k.");
        no("image", -1);
        no("image", 3);
        for (int far : FAR) {
            no("image", far);
        }
        for (int k = 0; k < 3; k++) {
            no("again", k);
        }
        for (int k = 0; k < 3; k++) {
            yes("day", k + 1);
            yes("image", k);
        }
        no("image", 3);
        for (int k = 2; k >= 0; k--) {
            yes("again", k);
            is(k + 1, "count", 6);
        }
    }

    private void imageOfAllThatIsTold() {
        sentence("36: all that is told (the tape, the FAULT, the WALK, too), as it is now");
        yes("image", 0);
        yes("day", 7);
        town(5, "sender 2 5 0 100;sender 3 5 0 1;wall 5 0 5 10 0;site 2 5 9 9;need 2 5;");
        law(2, "if x=2:bar;may;");
        yes("day", 8);
        yes("pull", 0, 1);
        yes("view", 7);
        yes("stuff", 0, 100, 0);
        int[] numbers = {2, 50, 3, 90, 4000, 5, 2};
        for (int what = 0; what < numbers.length; what++) {
            yes("set", what, numbers[what]);
        }
        yes("span", 0, 1, 1000);
        is(1, "step", 2, 5);
        is(2, "step", 3, 5);
        town(NONE, "need 1 21;");
        tape("need 4 4;");
        yes("image", 1);
        yes("again", 0);
        row("count", new int[] {0, 0, 0, 0, 0, 0, 0, NONE, 0, 0, ABSENT});
        fault(0, NONE);
        row("walk", new int[] {0, 0, 0});
        is(NONE, "end", 1);
        is(441, "places");
        toldOnceMore();
        yes("again", 1);
        row("count", new int[] {1, 2, 1, 2, 1, 1, 8, 7, 2, 1, ABSENT});
        fault(2, 7);
        row("walk", new int[] {2, 0, 0});
        row("wall", new int[] {5, 0, 5, 10, 0, 7, NONE}, 0);
        row("sender", new int[] {2, 5, 0, 100, 7, NONE}, 0);
        row("sender", new int[] {3, 5, 0, 1, 7, 8}, 1);
        // BACK of 100 and corners by 50: 100000 / 36 at its own place, 100000 / 136 by 50 behind the wall.
        is(100000 + 2777, "signal", 0, 2, 5);
        is(367 + 367, "signal", 0, 8, 5);
        row("breach", new int[] {0, 0});
        is(9, "cover", 0);
        is(1, "town");
        is(2, "count", 5);
        // The first with 1000 at most: at (7, 0) 833 + 195, at (8, 0) 649 + 190 round the corners.
        is(1028, "signal", 0, 7, 0);
        is(839, "signal", 0, 8, 0);
        is(8, "place", 0);
    }

    /** The settings of a new object are those that the document tells. */
    private void toldOnceMore() {
        town(3, "sender 4 5 0 10;wall 0 0 0 20 0;wall 10 0 10 20 0;");
        is(3, "ways", 0, 6, 5);
        is(10000 + 10000 / 64 / 2 + 10000 / 144 / 2, "signal", 0, 4, 5);
        is(0, "ways", 0, 12, 5);
    }

    private void imageOfTheTape() {
        sentence("36: all that is told (the tape .. too)");
        tape("need 1 1;need 2 2;");
        yes("image", 2);
        is(4, "end", 4);
        yes("again", 2);
        is(NONE, "end", 19);
        is(18, "end", 18);
        is(2, "town");
        yes("again", 2);
        is(0, "count", 5);
        is(38, "feed", BLANKS, BLANKS, BLANKS, BLANKS, BLANKS);
        is(2, "town");
        yes("again", 2);
        is(9, "end", 9);
        is(1, "town");
        yes("image", 2);
        is(20, "feed", BLANKS, BLANKS, BLANKS, BLANKS, BLANKS);
        yes("again", 2);
        is(NONE, "end", 1);
        is(1, "count", 5);
    }

    private void imageOfTheFullest() {
        sentence("36: Image k is all that is told [with as much as there may be]");
        town(12, times(12, "wall 0 0 0 5 0;"));
        town(6, times(6, "sender 1 1 1 1;"));
        town(16, times(8, "site 1 1 1 1;") + times(8, "need 1 1;"));
        law(16, times(15, "may;") + "if x=1 and y=1 and alone and hour>9:bar;");
        for (int k = 1; k <= 60; k++) {
            is(k, "step", 20, 20);
        }
        for (int k = 1; k <= 25; k++) {
            is(20 * k, "feed", BLANKS, BLANKS, BLANKS, BLANKS, BLANKS);
        }
        yes("day", 999);
        yes("image", 1);
        is(0, "unwalk");
        is(0, "end", 0);
        is(0, "law");
        yes("again", 1);
        row("count", new int[] {12, 6, 12, 6, 8, 8, 999, NONE, 16, 6, ABSENT});
        is(60, "walk", 0);
        is(NONE, "step", 0, 0);
        is(NONE, "feed", BLANKS, BLANKS, BLANKS, BLANKS, BLANKS);
        is(500, "end", 500);
        town(0, "");
        is(0, "why", 5, 23);
        town(NONE, "wall 0 0 0 5 0;");
        fault(4, 0);
    }

    private void imageInItsPlace() {
        sentence("36: Image k is all that is told, as it is now");
        yes("day", 1);
        yes("image", 0);
        yes("day", 2);
        yes("image", 0);
        yes("day", 3);
        yes("again", 0);
        is(2, "count", 6);
        // What comes behind the image does not come to it.
        town(1, "need 1 1;");
        is(1, "step", 0, 0);
        law(1, "may;");
        yes("again", 0);
        row("count", new int[] {0, 0, 0, 0, 0, 0, 2, NONE, 0, 0});
        is(0, "walk", 0);
        // A day that is earlier than it was comes with an image alone.
        no("day", 1);
        yes("day", 2);
    }

    private void againRefused() {
        sentence("37: false if there is none such.");
        for (int k = 0; k < 3; k++) {
            no("again", k);
        }
        yes("image", 1);
        yes("day", 5);
        town(1, "need 1 1;");
        no("again", 0);
        no("again", 2);
        no("again", 3);
        no("again", -1);
        for (int far : FAR) {
            no("again", far);
        }
        is(5, "count", 6);
        is(1, "count", 5);
        yes("again", 1);
        is(0, "count", 6);
        is(0, "count", 5);
    }

    private void otherImagesStay() {
        sentence("37: All that is as image k has it (other images stay): true");
        for (int k = 0; k < 3; k++) {
            yes("day", k + 1);
            town(1, "need 1 1;");
            yes("image", k);
        }
        yes("day", 9);
        for (int round = 0; round < 2; round++) {
            yes("again", 0);
            is(1, "count", 6);
            is(1, "count", 5);
            yes("again", 2);
            is(3, "count", 6);
            is(3, "count", 5);
            yes("again", 1);
            is(2, "count", 6);
            is(2, "count", 5);
            town(1, "need 1 1;");
        }
        yes("image", 0);
        yes("again", 2);
        is(3, "count", 6);
        yes("again", 0);
        is(2, "count", 6);
        is(3, "count", 5);
    }
}
