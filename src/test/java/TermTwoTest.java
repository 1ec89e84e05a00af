/** Term 2 of the document: legs, ways of each kind, their order and strength, and who is heard. */
public final class TermTwoTest extends Trial {
    public static void main(String[] args) {
        TermTwoTest test = new TermTwoTest();
        test.strictlyOnBothSides(false);
        test.strictlyOnBothSides(true);
        test.endsOfWallsToo(false);
        test.endsOfWallsToo(true);
        test.throughZero();
        test.eachLegMayBar();
        test.noLength();
        test.mirrorsAtEnds(false);
        test.mirrorsAtEnds(true);
        test.mirrorFromOneSide();
        test.unlikeMirrors();
        test.twoMirrorsAtEnds();
        test.endsOnLinesOfTwoMirrors();
        test.asManyMirrorsAsDepth();
        test.cornerIsNoEndOfTheWay();
        test.cornersOnlyWithBendAndBarredSight();
        test.cornerOfLeastWall();
        test.firstEnd();
        test.lengthsExactlyUnlike();
        test.lengthsExactlyAlike();
        test.sumsOfRootsOfTwoSenders();
        test.asLongByKind();
        test.asLongByWalls();
        test.asLongByEnd();
        test.strengthByOne();
        test.strengthOfCorner();
        test.strengthCut();
        test.signalTogether();
        test.signalAboveZero();
        test.notBelow();
        test.othersOfItsColour();
        test.greatNumbers();
        test.best();
        test.finish();
    }

    /** The same town with x and y changed about, as walls of both directions keep to the same words. */
    private static String point(boolean turned, int x, int y) {
        return turned ? " " + y + " " + x : " " + x + " " + y;
    }

    private void seen(int due, boolean turned, int sender, int x, int y) {
        is(due, "sees", sender, turned ? y : x, turned ? x : y);
    }

    private void strictlyOnBothSides(boolean turned) {
        sentence("It MEETS a WALL, if its ends lie strictly on both sides of the WALL's line");
        town(5, "wall" + point(turned, 5, 5) + point(turned, 5, 9) + " 0;"
                + "sender" + point(turned, 3, 7) + " 0 1;" + "sender" + point(turned, 5, 7) + " 0 1;"
                + "sender" + point(turned, 5, 2) + " 0 1;" + "sender" + point(turned, 5, 9) + " 0 1;");
        seen(1, turned, 0, 4, 7);
        seen(1, turned, 0, 5, 7);
        seen(1, turned, 0, 5, 5);
        seen(1, turned, 0, 5, 9);
        seen(0, turned, 0, 6, 7);
        seen(1, turned, 1, 0, 7);
        seen(1, turned, 1, 20, 7);
        seen(1, turned, 1, 5, 20);
        seen(1, turned, 2, 5, 7);
        seen(1, turned, 2, 5, 20);
        seen(1, turned, 3, 5, 0);
        seen(1, turned, 3, 6, 9);
        seen(1, turned, 3, 4, 9);
    }

    private void endsOfWallsToo(boolean turned) {
        sentence("and the place in which it goes over that line is one of the WALL (its ends, too)");
        town(6, "wall" + point(turned, 5, 5) + point(turned, 5, 9) + " 0;"
                + "sender" + point(turned, 3, 5) + " 0 1;" + "sender" + point(turned, 3, 9) + " 0 1;"
                + "sender" + point(turned, 3, 4) + " 0 1;" + "sender" + point(turned, 3, 10) + " 0 1;"
                + "sender" + point(turned, 3, 3) + " 0 1;");
        seen(0, turned, 0, 7, 5);
        seen(0, turned, 1, 7, 9);
        seen(1, turned, 2, 7, 4);
        seen(1, turned, 3, 7, 10);
        // Over 5 at 5, at 3 + 2 * 4 / 5, at 3 + 2 * 4 / 3, at 3 + 2 * 17 / 17.
        seen(0, turned, 4, 7, 7);
        seen(1, turned, 4, 8, 7);
        seen(0, turned, 4, 6, 7);
        seen(0, turned, 4, 20, 20);
        seen(1, turned, 4, 20, 19);
        // Over 5 at 10 - 2 * 9 / 17 and at 10 - 2 * 8 / 16.
        seen(0, turned, 3, 20, 1);
        seen(0, turned, 3, 19, 2);
        seen(1, turned, 3, 20, 2);
    }

    private void throughZero() {
        sentence("it is BARRED, if a LEG of it MEETS a WALL whose THROUGH is 0");
        town(2, "sender 0 0 0 1;wall 2 0 2 5 3;");
        no("sees", 0, 4, 0);
        is(0, "ways", 0, 4, 0);
        yes("stuff", 3, 50, 1);
        yes("sees", 0, 4, 0);
        is(1, "ways", 0, 4, 0);
        // 1000 / 16 by 1 is nothing, and yet a way.
        way(0, 4, 0, 0, 0, NONE, NONE, 16, 0, 0, 400);
        is(0, "signal", 0, 4, 0);
        yes("stuff", 3, 50, 100);
        is(62, "signal", 0, 4, 0);
        yes("stuff", 3, 50, 0);
        is(0, "ways", 0, 4, 0);
        // It is barred, too, if there was nothing left of it, or glass stands behind what bars it.
        String[] walls = {"wall 2 0 2 5 1;wall 3 0 3 5 0;", "wall 2 0 2 5 0;wall 3 0 3 5 1;"};
        for (String two : walls) {
            anew();
            town(3, "sender 0 0 0 1;" + two);
            yes("stuff", 1, 50, 1);
            no("sees", 0, 4, 0);
            is(0, "ways", 0, 4, 0);
            yes("stuff", 0, 50, 1);
            yes("sees", 0, 4, 0);
            is(1, "ways", 0, 4, 0);
        }
    }

    private void eachLegMayBar() {
        sentence("it is BARRED, if a LEG of it MEETS a WALL whose THROUGH is 0");
        // To (6, 9) by sight 9999000 / 20, by 0 and by 1 / 116, by 0 and 1 / 340, by 1 and 0 / 500.
        int sight = 499950;
        int one = 86198;
        int up = 29408;
        int down = 19998;
        // At x = 3 the ways by 0 are at 5.4 and 7.8, by 0 and 1 at 5.2 and 6.6, by 1 and 0 at 7.4 and 8.5;
        // at x = 8 those by 1 at 6.6 and 8.2, by 0 and 1 at 7.7 and 8.6, by 1 and 0 at 5.7 and 6.5.
        barring("wall 0 20 1 20 1;", sight + one + one + up + down);
        barring("wall 3 5 3 6 1;", sight + one + down);
        barring("wall 3 6 3 7 1;", sight + one + one + down);
        barring("wall 3 7 3 8 1;", sight + one + up);
        barring("wall 3 8 3 9 1;", sight + one + one + up);
        barring("wall 8 5 8 6 1;", sight + one + one + up);
        barring("wall 8 6 8 7 1;", sight + one + up);
        barring("wall 8 7 8 8 1;", sight + one + one + down);
        barring("wall 8 8 8 9 1;", sight + one + down);
        barring("wall 5 5 5 9 1;", 0);
        barring("wall 5 6 5 8 1;", one + one);
    }

    private void barring(String wall, int signal) {
        anew();
        town(4, "sender 4 5 0 9999;wall 0 0 0 20 0;wall 10 0 10 20 0;" + wall);
        yes("set", 0, 2);
        yes("stuff", 0, 100, 0);
        yes("stuff", 1, 0, 0);
        is(signal, "signal", 0, 6, 9);
    }

    private void noLength() {
        sentence("0: one LEG (of no length, too).");
        town(3, "sender 5 5 0 7;wall 5 5 5 9 0;wall 0 5 9 5 0;");
        yes("sees", 0, 5, 5);
        is(1, "ways", 0, 5, 5);
        way(0, 5, 5, 0, 0, NONE, NONE, 0, 0, 7000, 0);
        is(7000, "signal", 0, 5, 5);
        is(0, "compare", 0, 0, 0, 0, 5, 5);
    }

    private void mirrorsAtEnds(boolean turned) {
        sentence("1: two LEGS by a MIRROR: a place of a WALL [its ends, too]");
        town(3, "sender" + point(turned, 2, 2) + " 0 64;sender" + point(turned, 10, 2) + " 0 64;"
                + "wall" + point(turned, 4, 4) + point(turned, 8, 4) + " 0;");
        int[][] asked = {{0, 6, 2}, {0, 5, 2}, {0, 7, 2}, {0, 14, 2}, {0, 15, 2}, {0, 13, 2},
            {1, 6, 2}, {1, 7, 2}, {1, 5, 2}, {1, 3, 3}, {0, 5, 3}};
        // The mirror would be at x = 4, 3.5, 4.5, 8, 8.5, 7.5; 8, 8.5, 7.5; 5.33; 4.
        int[] ways = {2, 1, 2, 2, 1, 2, 2, 1, 2, 2, 2};
        for (int k = 0; k < asked.length; k++) {
            int x = asked[k][turned ? 2 : 1];
            int y = asked[k][turned ? 1 : 2];
            is(ways[k], "ways", asked[k][0], x, y);
        }
    }

    private void mirrorFromOneSide() {
        sentence("at which both LEGS come from one side of its line, neither end of the WAY on that line");
        town(5, "sender 6 2 0 64;sender 6 4 0 64;sender 0 4 0 64;sender 6 6 0 64;wall 4 4 8 4 0;");
        yes("stuff", 0, 50, 100);
        is(2, "ways", 0, 6, 2);
        way(0, 6, 2, 1, 1, 0, NONE, 16, 0, 2000, 400);
        is(2, "ways", 0, 6, 3);
        is(1, "ways", 0, 6, 4);
        is(1, "ways", 0, 20, 4);
        is(1, "ways", 0, 6, 5);
        is(1, "ways", 1, 6, 2);
        is(1, "ways", 1, 6, 4);
        is(1, "ways", 1, 6, 6);
        is(1, "ways", 2, 12, 4);
        is(1, "ways", 2, 12, 3);
        is(2, "ways", 3, 6, 5);
        is(1, "ways", 3, 6, 3);
    }

    private void unlikeMirrors() {
        sentence("2: three LEGS by two unlike MIRRORS");
        town(2, "sender 4 5 0 9;wall 0 0 0 20 0;");
        yes("set", 0, 2);
        is(2, "ways", 0, 6, 5);
        // A second wall in the same line, or in the same place, makes no pair with the first one.
        town(1, "wall 0 0 0 20 0;");
        is(3, "ways", 0, 6, 5);
        // With one on the other side each of them does, in both rows.
        town(1, "wall 10 0 10 20 0;");
        is(1 + 3 + 4, "ways", 0, 6, 5);
        anew();
        town(3, "sender 4 5 0 9;wall 0 0 0 6 0;wall 0 6 0 20 0;");
        yes("set", 0, 2);
        is(2, "ways", 0, 6, 5);
        is(3, "ways", 0, 4, 7);
    }

    private void twoMirrorsAtEnds() {
        sentence("2: three LEGS by two unlike MIRRORS, likewise at each");
        // From (3, 2) by (1, 0) and (0, 1) to (2, 3).
        String[] walls = {"wall 1 0 9 0 0;wall 0 1 0 9 0;", "wall 0 0 1 0 0;wall 0 0 0 1 0;",
            "wall 2 0 9 0 0;wall 0 1 0 9 0;", "wall 1 0 9 0 0;wall 0 2 0 9 0;"};
        town(3, "sender 3 2 0 50;" + walls[0]);
        is(3, "ways", 0, 2, 3);
        yes("set", 0, 2);
        is(4, "ways", 0, 2, 3);
        way(0, 2, 3, 3, 2, 0, 1, 50, 0, 250, 707);
        anew();
        town(3, "sender 3 2 0 50;" + walls[1]);
        is(1, "ways", 0, 2, 3);
        yes("set", 0, 2);
        is(2, "ways", 0, 2, 3);
        way(0, 2, 3, 1, 2, 0, 1, 50, 0, 250, 707);
        for (int k = 2; k < 4; k++) {
            anew();
            town(3, "sender 3 2 0 50;" + walls[k]);
            yes("set", 0, 2);
            // By sight, by (2.6, 0), by (0, 2.6); one of the walls does not go as far as the way by both.
            is(3, "ways", 0, 2, 3);
        }
    }

    private void endsOnLinesOfTwoMirrors() {
        sentence("(neither end of the first two LEGS together, nor of the last two, on that line of theirs)");
        town(4, "sender 4 5 0 9;sender 10 5 0 9;sender 0 5 0 9;wall 0 0 0 20 0;");
        town(1, "wall 10 0 10 20 0;");
        yes("set", 0, 2);
        // The way's last end on the first one's line: by sight, by 1, by 0 and 1.
        is(3, "ways", 0, 0, 5);
        way(0, 0, 5, 1, 1, 1, NONE, 256);
        way(0, 0, 5, 2, 2, 0, 1, 576);
        // Its first end on the second one's line: by sight, by 0, by 0 and 1.
        is(3, "ways", 1, 4, 5);
        way(1, 4, 5, 1, 1, 0, NONE, 196);
        way(1, 4, 5, 2, 2, 0, 1, 676);
        // From the line of 1 to that of 0: by 0 and 1 alone.
        is(2, "ways", 1, 0, 5);
        way(1, 0, 5, 1, 2, 0, 1, 900);
        // From the line of 0 to itself: by 1 alone.
        is(2, "ways", 2, 0, 9);
        way(2, 0, 9, 1, 1, 1, NONE, 416);
        // Into the corner of two lines itself goes no way by both.
        anew();
        town(3, "sender 4 4 0 1;wall 0 0 0 9 0;wall 0 0 9 0 0;");
        yes("set", 0, 2);
        is(3, "ways", 0, 2, 2);
        is(4, "ways", 0, 2, 3);
        is(4, "ways", 0, 3, 2);
    }

    private void asManyMirrorsAsDepth() {
        sentence("WAYS of as many MIRRORS as DEPTH at most count.");
        town(3, "sender 4 5 0 9;wall 0 0 0 20 0;wall 10 0 10 20 0;");
        int[] ways = {1, 3, 5};
        for (int depth = 0; depth <= 2; depth++) {
            yes("set", 0, depth);
            is(ways[depth], "ways", 0, 6, 5);
        }
        // A corner is no mirror.
        anew();
        town(2, "sender 2 5 0 100;wall 5 0 5 10 0;");
        yes("set", 1, 50);
        for (int depth = 0; depth <= 2; depth++) {
            yes("set", 0, depth);
            is(2, "ways", 0, 8, 5);
        }
    }

    private void cornerIsNoEndOfTheWay() {
        sentence("an end of a WALL that is neither the SENDER's POINT nor the other one");
        // Sight from (5, 0) to (5, 10) is barred by wall 1; wall 0 has both of these as its ends.
        town(4, "sender 5 0 0 9;sender 4 0 0 9;wall 5 0 5 10 0;wall 3 1 9 1 0;");
        yes("set", 1, 100);
        is(2, "ways", 0, 5, 10);
        way(0, 5, 10, 0, 3, 1, 0, 5, 85);
        way(0, 5, 10, 1, 3, 1, 1, 17, 97);
        // Of other ends of ways these are corners, as long as wall 1 is not between.
        yes("set", 0, 0);
        yes("pull", 1, 1);
        town(1, "wall 3 3 4 3 0;");
        is(4, "ways", 1, 3, 10);
        way(1, 3, 10, 0, 3, 2, 1, 9, 50);
        way(1, 3, 10, 1, 3, 2, 0, 10, 49);
        way(1, 3, 10, 2, 3, 0, 0, 1, 104);
        way(1, 3, 10, 3, 3, 0, 1, 101, 4);
        anew();
        town(3, "sender 3 3 0 9;wall 3 3 4 3 0;wall 2 5 4 5 0;");
        yes("set", 0, 0);
        yes("set", 1, 100);
        // From an end of wall 0; its other end lies before wall 1.
        is(2, "ways", 0, 3, 9);
        way(0, 3, 9, 0, 3, 1, 0, 5, 17);
        way(0, 3, 9, 1, 3, 1, 1, 5, 17);
    }

    private void cornersOnlyWithBendAndBarredSight() {
        sentence("only if BEND is above 0, and KIND 0 is BARRED");
        town(2, "sender 2 5 0 100;wall 5 0 5 10 0;");
        is(0, "ways", 0, 8, 5);
        yes("set", 1, 1);
        is(2, "ways", 0, 8, 5);
        yes("stuff", 0, 50, 1);
        is(1, "ways", 0, 8, 5);
        yes("stuff", 0, 50, 0);
        is(2, "ways", 0, 8, 5);
        is(1, "ways", 0, 5, 5);
        is(1, "ways", 0, 8, 20);
        yes("set", 1, 0);
        is(0, "ways", 0, 8, 5);
        // Other ways do not take the corners away.
        yes("set", 1, 1);
        town(1, "wall 2 11 8 11 0;");
        is(3, "ways", 0, 8, 5);
        way(0, 8, 5, 0, 3, 0, 0);
        way(0, 8, 5, 1, 3, 0, 1);
        way(0, 8, 5, 2, 1, 1, NONE, 36 + 144);
    }

    private void cornerOfLeastWall() {
        sentence("(Ends that several WALLS have are one CORNER, of the least of these WALLS");
        town(4, "sender 2 9 0 100;wall 5 10 9 10 0;wall 5 10 5 0 0;wall 5 10 5 15 1;");
        yes("stuff", 1, 0, 0);
        yes("set", 0, 0);
        yes("set", 1, 100);
        is(2, "ways", 0, 8, 9);
        // (5, 10) is end 0 of wall 0, end 1 of wall 1, end 0 of wall 2; (9, 10) lies behind wall 1, (5, 15) before wall 0.
        way(0, 8, 9, 0, 3, 0, 0, 10, 10);
        way(0, 8, 9, 1, 3, 1, 0, 90, 90);
        yes("pull", 1, 0);
        is(3, "ways", 0, 8, 9);
        way(0, 8, 9, 0, 3, 1, 1, 10, 10);
        way(0, 8, 9, 1, 3, 2, 1, 45, 45);
        way(0, 8, 9, 2, 3, 1, 0, 90, 90);
        town(1, "wall 5 10 5 0 0;");
        yes("pull", 1, 1);
        way(0, 8, 9, 0, 3, 2, 0, 10, 10);
        way(0, 8, 9, 1, 3, 2, 1, 45, 45);
        way(0, 8, 9, 2, 3, 3, 0, 90, 90);
    }

    private void firstEnd() {
        sentence("of a WALL its end with the lesser x, y is the first one.)");
        town(2, "sender 2 5 0 100;wall 5 9 5 3 0;");
        yes("set", 1, 100);
        way(0, 8, 5, 0, 3, 0, 0, 13, 13);
        way(0, 8, 5, 1, 3, 0, 1, 25, 25);
        row("wall", new int[] {5, 3, 5, 9}, 0);
        anew();
        town(2, "sender 5 2 0 100;wall 9 5 3 5 0;");
        yes("set", 1, 100);
        way(0, 5, 8, 0, 3, 0, 0, 13, 13);
        way(0, 5, 8, 1, 3, 0, 1, 25, 25);
        row("wall", new int[] {3, 5, 9, 5}, 0);
    }

    private void lengthsExactlyUnlike() {
        sentence("are in ORDER by LENGTH (exactly), the shortest first");
        town(4, "sender 0 0 0 9;wall 0 12 3 12 0;wall 17 9 20 9 0;wall 8 10 10 10 0;");
        yes("set", 0, 0);
        yes("set", 1, 100);
        is(6, "ways", 0, 17, 17);
        // Root 370 + 8 is less than root 153 + root 221 by 0.0000016.
        int[][] due = {{3, 2, 1, 200, 98}, {3, 2, 0, 164, 130}, {3, 1, 0, 370, 64}, {3, 0, 1, 153, 221}, {3, 0, 0, 144, 314},
            {3, 1, 1, 481, 73}};
        for (int k = 0; k < due.length; k++) {
            way(0, 17, 17, k, due[k]);
            for (int i = 0; i < due.length; i++) {
                is(Integer.compare(k, i), "compare", 0, k, 0, i, 17, 17);
            }
        }
    }

    private void lengthsExactlyAlike() {
        sentence("are in ORDER by LENGTH (exactly) .. of as long ones by KIND");
        town(3, "sender 0 1 0 9;wall 1 0 5 0 0;wall 1 1 1 5 0;");
        yes("set", 1, 100);
        is(5, "ways", 0, 3, 2);
        // Root 18 is root 2 + root 8, though not so with cut digits.
        int[][] due = {{3, 1, 0, 1, 5}, {1, 0, NONE, 18, 0}, {3, 0, 0, 2, 8}, {3, 1, 1, 17, 13}, {3, 0, 1, 26, 8}};
        for (int k = 0; k < due.length; k++) {
            way(0, 3, 2, k, due[k]);
        }
        is(0, "compare", 0, 1, 0, 2, 3, 2);
        is(0, "compare", 0, 2, 0, 1, 3, 2);
        is(-1, "compare", 0, 0, 0, 1, 3, 2);
        is(1, "compare", 0, 3, 0, 2, 3, 2);
    }

    private void sumsOfRootsOfTwoSenders() {
        sentence("put in order by lengths that are sums of roots");
        town(4, "sender 14 12 0 9;sender 6 10 0 9;wall 13 11 13 13 0;wall 8 8 8 10 0;");
        yes("set", 1, 100);
        way(0, 10, 10, 1, 3, 0, 1, 2, 18);
        way(1, 10, 10, 1, 3, 1, 0, 8, 8);
        // Root 2 + root 18 is twice root 8.
        is(0, "compare", 0, 1, 1, 1, 10, 10);
        is(0, "compare", 1, 1, 0, 1, 10, 10);
        anew();
        town(5, "sender 6 19 0 9;sender 9 20 0 9;wall 18 0 20 0 0;wall 20 3 20 2 0;wall 0 1 1 1 0;");
        yes("set", 0, 0);
        yes("set", 1, 100);
        way(0, 0, 0, 2, 3, 0, 0, 505, 324);
        way(1, 0, 0, 3, 3, 1, 1, 410, 409);
        // 18 + root 505 = 40.47220505, root 409 + root 410 = 40.47220515.
        is(-1, "compare", 0, 2, 1, 3, 0, 0);
        is(1, "compare", 1, 3, 0, 2, 0, 0);
    }

    private void asLongByKind() {
        sentence("of as long ones by KIND");
        town(4, "sender 4 5 0 9;wall 0 0 0 9 0;wall 10 0 10 9 0;wall 0 15 9 15 0;");
        yes("set", 0, 2);
        is(6, "ways", 0, 4, 5);
        int[][] due = {{0, NONE, NONE, 0}, {1, 0, NONE, 64}, {1, 1, NONE, 144}, {1, 2, NONE, 400}, {2, 0, 1, 400}, {2, 1, 0, 400}};
        for (int k = 0; k < due.length; k++) {
            way(0, 4, 5, k, due[k]);
        }
        is(0, "compare", 0, 3, 0, 4, 4, 5);
        is(0, "compare", 0, 4, 0, 5, 4, 5);
    }

    private void asLongByWalls() {
        sentence("then by the first WALL (the CORNER's WALL), then by the second one");
        town(5, "sender 4 5 0 9;wall 10 0 10 9 0;wall 0 0 0 9 0;wall 10 0 10 9 0;wall 0 0 0 9 0;");
        yes("set", 0, 2);
        is(1 + 4 + 8, "ways", 0, 4, 5);
        int[][] ones = {{1, 1, NONE, 64}, {1, 3, NONE, 64}, {1, 0, NONE, 144}, {1, 2, NONE, 144}};
        for (int k = 0; k < ones.length; k++) {
            way(0, 4, 5, k + 1, ones[k]);
        }
        int[] firsts = {0, 0, 1, 1, 2, 2, 3, 3};
        int[] seconds = {1, 3, 0, 2, 1, 3, 0, 2};
        for (int k = 0; k < firsts.length; k++) {
            way(0, 4, 5, k + 5, 2, firsts[k], seconds[k], 400);
        }
        // Corners of two walls, as far on both sides: (10, 7) of wall 0, (10, 3) of wall 1; and all the ends of wall 2.
        anew();
        town(4, "sender 8 5 0 9;wall 10 7 10 9 0;wall 10 3 10 1 0;wall 10 4 10 6 0;");
        yes("set", 1, 100);
        is(6, "ways", 0, 12, 5);
        int[][] corners = {{3, 2, 0, 5, 5}, {3, 2, 1, 5, 5}, {3, 0, 0, 8, 8}, {3, 1, 1, 8, 8}, {3, 0, 1, 20, 20}, {3, 1, 0, 20, 20}};
        for (int k = 0; k < corners.length; k++) {
            way(0, 12, 5, k, corners[k]);
        }
    }

    private void asLongByEnd() {
        sentence("then by the second one (the CORNER's end, 0 or 1)");
        town(2, "sender 2 5 0 9;wall 5 8 5 2 0;");
        yes("set", 1, 100);
        is(2, "ways", 0, 8, 5);
        way(0, 8, 5, 0, 3, 0, 0, 18, 18);
        way(0, 8, 5, 1, 3, 0, 1, 18, 18);
        is(0, "compare", 0, 0, 0, 1, 8, 5);
    }

    private void strengthByOne() {
        sentence("POWER * 1000 / D (by 1 if D is 0");
        town(2, "sender 3 3 0 9999;sender 3 3 0 1;");
        is(9999000, "signal", 0, 3, 3);
        is(9999000, "signal", 0, 3, 4);
        is(1000, "signal", 1, 3, 3);
        is(1000, "signal", 1, 3, 4);
        is(500, "signal", 1, 4, 4);
        // D = 578: 1.7 is 1.
        is(1, "signal", 1, 20, 20);
    }

    private void strengthOfCorner() {
        sentence("of KIND 3 D is A + B + 2 * the root, cut, of A * B), cut");
        town(2, "sender 5 0 0 9;wall 3 1 9 1 0;");
        yes("set", 1, 100);
        // Root of 5 * 85 = 20.6: 9000 / (5 + 85 + 40) = 69.2; root of 17 * 97 = 40.6: 9000 / (17 + 97 + 80) = 46.4.
        way(0, 5, 10, 0, 3, 0, 0, 5, 85, 69, 223 + 921);
        way(0, 5, 10, 1, 3, 0, 1, 17, 97, 46, 412 + 984);
        yes("set", 1, 99);
        is(68, "way", 0, 5, 10, 0, 5);
        is(45, "way", 0, 5, 10, 1, 5);
    }

    private void strengthCut() {
        sentence("by BACK of each MIRROR, the SENDER's first; then LEG by LEG .. each of these times / 100, cut");
        town(3, "sender 2 3 0 99;wall 0 0 0 6 1;wall 9 0 9 6 0;");
        yes("set", 0, 2);
        yes("stuff", 0, 7, 0);
        yes("stuff", 1, 90, 0);
        // First 0: 99000 / 144 = 687, by 90: 618, by 7: 43. First 1: 99000 / 576 = 171, by 7: 11, by 90: 9 (else 10).
        way(0, 8, 3, 3, 2, 0, 1, 144, 0, 43);
        way(0, 8, 3, 4, 2, 1, 0, 576, 0, 9);
        // Leg by leg: the first one meets wall 2, the second one wall 1. 17000 / 100 = 170, by 7: 11, by 90: 9 (else 10).
        anew();
        town(4, "sender 2 4 0 17;wall 0 0 20 0 0;wall 6 2 7 2 1;wall 3 2 4 2 2;");
        yes("stuff", 0, 100, 0);
        yes("stuff", 1, 0, 90);
        yes("stuff", 2, 0, 7);
        way(0, 8, 4, 1, 1, 0, NONE, 100, 0, 9);
        // In a leg by the walls' numbers, whichever comes first on it.
        anew();
        town(3, "sender 0 0 0 17;wall 6 0 6 5 2;wall 3 0 3 5 1;");
        yes("stuff", 1, 0, 90);
        yes("stuff", 2, 0, 7);
        is(9, "signal", 0, 10, 0);
        yes("stuff", 1, 0, 7);
        yes("stuff", 2, 0, 90);
        is(10, "signal", 0, 10, 0);
        // Each time cut: 170 by 1 is 1, by 99 is 0.
        yes("stuff", 2, 0, 1);
        yes("stuff", 1, 0, 99);
        is(0, "signal", 0, 10, 0);
        is(1, "ways", 0, 10, 0);
    }

    private void signalTogether() {
        sentence("SIGNAL of a SENDER at a POINT: the STRENGTHS of all WAYS together.");
        town(3, "sender 4 5 0 324;wall 0 0 0 20 0;wall 10 0 10 20 0;");
        yes("set", 0, 2);
        is(81000 + 1620 + 1620 + 250 + 167, "signal", 0, 6, 5);
        yes("set", 0, 1);
        is(81000 + 1620 + 1620, "signal", 0, 6, 5);
        anew();
        town(2, "sender 2 5 0 100;wall 5 0 5 10 0;");
        is(0, "signal", 0, 8, 5);
    }

    private void signalAboveZero() {
        sentence("It is HEARD there, if SIGNAL is above 0");
        town(2, "sender 2 5 0 1;wall 5 0 5 20 0;");
        yes("set", 3, 0);
        is(0, "signal", 0, 8, 5);
        is(0, "heard", 8, 5);
        is(NONE, "best", 8, 5);
        // 1000 / 36 = 27 by 4 is 1, by 3 is 0: a way, and not heard.
        yes("stuff", 0, 50, 4);
        is(1, "signal", 0, 8, 5);
        is(1, "heard", 8, 5);
        is(0, "best", 8, 5);
        yes("stuff", 0, 50, 3);
        is(1, "ways", 0, 8, 5);
        is(0, "signal", 0, 8, 5);
        is(0, "heard", 8, 5);
        yes("set", 2, 0);
        is(0, "heard", 8, 5);
    }

    private void notBelow() {
        sentence("and SIGNAL * 100 is not below SHARE * (NOISE and ..)");
        town(1, "sender 0 0 0 10;");
        is(100, "signal", 0, 0, 10);
        yes("set", 2, 100);
        is(1, "heard", 0, 10);
        yes("set", 2, 101);
        is(0, "heard", 0, 10);
        yes("set", 2, 50);
        yes("set", 3, 200);
        is(1, "heard", 0, 10);
        yes("set", 3, 201);
        is(0, "heard", 0, 10);
    }

    private void othersOfItsColour() {
        sentence("(NOISE and the SIGNALS there of all other SENDERS of its COLOUR, together)");
        // 10000 of each at (2, 0); 20000 together are against sender 0.
        town(4, "sender 0 0 3 40;sender 4 0 3 40;sender 2 2 3 40;sender 2 0 4 9999;");
        yes("set", 2, 0);
        is(8, "heard", 2, 0);
        yes("set", 3, 50);
        is(15, "heard", 2, 0);
        yes("set", 3, 51);
        is(8, "heard", 2, 0);
        yes("set", 3, 50);
        yes("set", 2, 1);
        is(8, "heard", 2, 0);
        yes("pull", 0, 2);
        is(11, "heard", 2, 0);
    }

    private void greatNumbers() {
        sentence("SIGNAL * 100 is not below SHARE * (..), however great these are");
        // At (1, 1): 9999000 and twelve times 2499750.
        town(13, "sender 1 1 0 9999;" + times(12, "wall 0 0 0 5 0;"));
        yes("stuff", 0, 100, 0);
        is(39996000, "signal", 0, 1, 1);
        is(1, "heard", 1, 1);
        is(0, "best", 1, 1);
        town(1, "sender 20 20 1 9999;");
        is(1, "step", 20, 20);
        is(2, "step", 1, 1);
        is(1, "served", 0);
        is(0, "served", 1);
        town(1, "sender 1 1 0 9999;");
        is(2, "heard", 1, 1);
        yes("set", 2, 0);
        is(7, "heard", 1, 1);
        yes("set", 3, 9999);
        is(2, "heard", 1, 1);
        yes("set", 3, 0);
        is(7, "heard", 1, 1);
    }

    private void best() {
        sentence("BEST at a POINT: of those HEARD that with the greatest SIGNAL, of several the least.");
        town(5, "sender 0 0 0 9;sender 4 0 1 40;sender 0 0 2 40;sender 2 2 3 40;sender 2 2 4 41;");
        is(4, "best", 2, 0);
        yes("pull", 0, 4);
        is(1, "best", 2, 0);
        yes("pull", 0, 1);
        is(2, "best", 2, 0);
        yes("set", 2, 9999);
        is(2, "best", 2, 0);
        yes("set", 3, 101);
        is(NONE, "best", 2, 0);
        anew();
        town(3, "sender 0 0 0 40;sender 4 0 0 40;sender 20 0 1 1;");
        is(2, "best", 2, 0);
    }
}
