/** Term 5 of the document: the tape, tokens, towns and laws as texts, their faults, and what a law tells. */
public final class TermFiveTest extends Trial {
    private static final String NEED = "need 1 1;";
    private static final String SIXTEEN = times(16, "may;");

    public static void main(String[] args) {
        TermFiveTest test = new TermFiveTest();
        test.tapeOfMostBytes();
        test.blanks();
        test.otherBytesAreNoBlanks();
        test.asLongAsTheyGo();
        test.words();
        test.numbers();
        test.signs();
        test.townGoesOn();
        test.lawGoesOn();
        test.townTokens();
        test.lawTokens();
        test.noLines();
        test.faultOneFirst();
        test.firstByPlace();
        test.ofOnePlaceTheLeast();
        test.numbersThatCannotBe();
        test.oneTooManyWithThoseThatThereAre();
        test.inTheirOrder();
        test.mostLines();
        test.mostTests();
        test.lawFaultsByPlace();
        test.asManyAsTheTapeHas();
        test.hours();
        test.firstLineWhoseTestsAllHold();
        test.withoutALine();
        test.signsOfTests();
        test.notTurns();
        test.alone();
        test.heard();
        test.heardAtMost();
        test.breach();
        test.finish();
    }

    private static String blank(int n) {
        return times(n, " ");
    }

    private void tapeOfMostBytes() {
        sentence("THE TAPE has at most 500 bytes.");
        goodTown(1, blank(491) + NEED);
        is(1, "count", 5);
        goodTown(1, NEED + blank(491));
        goodTown(0, blank(500));
        goodLaw(1, blank(496) + "may;");
        badTown("need 1 1" + blank(492), 1, 500);
        badTown(blank(499) + "#", 1, 499);
        badLaw(blank(497) + "bar", 1, 500);
    }

    private void blanks() {
        sentence("blanks (10, 32) between");
        goodTown(2, "need 1 1;need 2 2;");
        goodTown(2, "need\n1\n1\n;\nneed\n2\n2\n;\n");
        goodTown(2, "  need \n 1\n\n1 ;  need  2  2 \n; ");
        goodTown(0, "\n");
        goodLaw(1, " if\nnot\nx\n<\n1\nand\nalone\n:\nbar\n;\n");
        goodLaw(1, "if x<1 and y>2:bar;");
    }

    private void otherBytesAreNoBlanks() {
        sentence("blanks (10, 32) between [and no other bytes]");
        int[] bytes = {0, 1, 8, 9, 11, 12, 13, 31, 33, 35, 45, 46, 95, 127, 128, 160, 255};
        for (int sign : bytes) {
            badTown("need" + (char) sign + "1 1;", 1, 4);
            badTown((char) sign + NEED, 1, 0);
            badTown(NEED + (char) sign, 1, 9);
            badLaw("may" + (char) sign + ";", 1, 3);
            badLaw("may;" + (char) sign, 1, 4);
        }
    }

    private void asLongAsTheyGo() {
        sentence("TOKENS, as long as they go");
        badTown("needneed 1 1;", 1, 0);
        badTown("need 1 1;needneed 1 1;", 1, 9);
        badTown("need 11;", 1, 7);
        badLaw("ifx=1:bar;", 1, 0);
        badLaw("if notx=1:bar;", 1, 3);
        badLaw("if x=1andy=2:bar;", 1, 6);
        badLaw("maymay;", 1, 0);
        goodTown(2, "need 1 1;need 2 2;");
        goodLaw(2, "may;may;");
    }

    private void words() {
        sentence("WORDS, rows of letters a .. z");
        badTown("needa 1 1;", 1, 0);
        badTown("needz 1 1;", 1, 0);
        badTown("aneed 1 1;", 1, 0);
        badTown("zneed 1 1;", 1, 0);
        // Bytes 96 and 123 lie beside a and z, A and Z are no letters of words.
        badTown("need`1 1;", 1, 4);
        badTown("need{1 1;", 1, 4);
        badTown("needA 1 1;", 1, 4);
        badTown("needZ 1 1;", 1, 4);
        badTown("neeD 1 1;", 1, 0);
        badTown("Need 1 1;", 1, 0);
        badLaw("mayz;", 1, 0);
        badLaw("may{;", 1, 3);
    }

    private void numbers() {
        sentence("NUMBERS, 1 to 4 digits");
        goodTown(1, "need 0 9;");
        goodTown(1, "need 0009 0000;");
        goodTown(1, "need 19 08;");
        badTown("need 00001 1;", 1, 5);
        badTown("need 1 00001;", 1, 7);
        badTown("need 1 12345678901234567890;", 1, 7);
        badTown("need 1 99999;", 1, 7);
        badTown("need 1 9999;", 2, 7);
        // Byte 47 lies beside 0, 58 beside 9 is a sign.
        badTown("need 1/1;", 1, 6);
        badTown("need 1:1;", 1, 6);
        badTown("need -1 1;", 1, 5);
        goodLaw(1, "if x<9999:may;");
        goodLaw(1, "if x<0000:may;");
        badLaw("if x<00000:may;", 1, 5);
        badLaw("if x<10000:may;", 1, 5);
    }

    private void signs() {
        sentence("signs : ; < > = one byte each");
        badLaw("if x<=1:may;", 1, 5);
        badLaw("if x==1:may;", 1, 5);
        badLaw("if x<>1:may;", 1, 5);
        badLaw("if x=1::may;", 1, 7);
        badLaw("may;;", 1, 4);
        badTown("need 1 1;;", 1, 9);
        badTown("need 1 1: ;", 1, 8);
        // Bytes 57 and 63 lie beside them.
        badLaw("if x?1:may;", 1, 4);
        badLaw("may?", 1, 3);
        badLaw("if x91:may;", 1, 4);
        goodLaw(3, "if x<1:may;if x>1:may;if x=1:may;");
    }

    private void townGoesOn() {
        sentence("FAULT 1 of each text is at the first byte or token with which no text goes on (a token's first byte; the end's)");
        String[] lines = {"wall 1 2 3 2 0;", "sender 1 2 3 4;", "need 1 2;", "site 1 2 3 4;"};
        for (String line : lines) {
            int word = line.indexOf(' ');
            for (int cut = 1; cut < line.length(); cut++) {
                badTown(line.substring(0, cut), 1, cut < word ? 0 : cut);
                badTown(NEED + line.substring(0, cut), 1, 9 + (cut < word ? 0 : cut));
            }
            goodTown(1, line);
        }
        badTown("need 1 1  ", 1, 10);
        badTown("need ", 1, 5);
    }

    private void lawGoesOn() {
        sentence("FAULT 1 of each text is at the first byte or token with which no text goes on (a token's first byte; the end's)");
        String line = "if not x<1 and alone:bar;";
        int[] places = {0, 0, 2, 3, 3, 3, 6, 7, 8, 9, 10, 11, 11, 11, 14, 15, 15, 15, 15, 15, 20, 21, 21, 21, 24};
        for (int cut = 1; cut < line.length(); cut++) {
            badLaw(line.substring(0, cut), 1, places[cut]);
            badLaw("may;" + line.substring(0, cut), 1, 4 + places[cut]);
        }
        goodLaw(1, line);
        badLaw("may \n ", 1, 6);
    }

    private void townTokens() {
        sentence("LINE: ('wall' NUMBER NUMBER NUMBER NUMBER NUMBER | 'sender' .. | 'need' .. | 'site' ..) ';'");
        String[] words = {"wall", "sender", "need", "site"};
        int[] counts = {5, 4, 2, 4};
        for (int k = 0; k < words.length; k++) {
            StringBuilder line = new StringBuilder(words[k]);
            for (int n = 0; n < counts[k]; n++) {
                badTown(line + ";", 1, line.length());
                badTown(line + " need", 1, line.length() + 1);
                badTown(line + " :", 1, line.length() + 1);
                line.append(' ').append(n == 0 ? 2 : 1);
            }
            goodTown(1, line + ";");
            badTown(line + " 1;", 1, line.length() + 1);
            badTown(line + " need", 1, line.length() + 1);
            badTown(line + "<", 1, line.length());
        }
        badTown("1;", 1, 0);
        badTown(";", 1, 0);
        badTown("may;", 1, 0);
        badTown("walls 1 1 2 1 1;", 1, 0);
        badTown("need 1 1;1 1;", 1, 9);
    }

    private void lawTokens() {
        sentence("LINE: ['if' TEST {'and' TEST} ':'] ('bar' | 'may') ';'. TEST: ['not'] ('alone' | (..) ('<' | '>' | '=') NUMBER).");
        String[] words = {"colour", "power", "x", "y", "hour", "heard"};
        for (String word : words) {
            goodLaw(1, "if " + word + "<1:may;");
            goodLaw(1, "if not " + word + ">1 and not alone:bar;");
            badLaw("if " + word + ":may;", 1, 3 + word.length());
            badLaw("if " + word + " 1:may;", 1, 4 + word.length());
            badLaw("if " + word + "=x:may;", 1, 4 + word.length());
            badLaw("if " + word + "=1 may;", 1, 6 + word.length());
            badLaw("if " + word + "s=1:may;", 1, 3);
        }
        goodLaw(2, "bar;may;");
        badLaw("if alone<1:may;", 1, 8);
        badLaw("if not not alone:may;", 1, 7);
        badLaw("if not:may;", 1, 6);
        badLaw("if :may;", 1, 3);
        badLaw("if alone and:may;", 1, 12);
        badLaw("if alone and and:may;", 1, 13);
        badLaw("if alone alone:may;", 1, 9);
        badLaw("if x and:may;", 1, 5);
        badLaw("if and alone:may;", 1, 3);
        badLaw("if x= and y=1:may;", 1, 6);
        badLaw("if alone:;", 1, 9);
        badLaw("if alone;", 1, 8);
        badLaw("if alone:bar may;", 1, 13);
        badLaw("if alone:if alone:bar;", 1, 9);
        badLaw(":may;", 1, 0);
        badLaw("and alone:may;", 1, 0);
        badLaw("alone:may;", 1, 0);
        badLaw("not alone:may;", 1, 0);
        badLaw("may:", 1, 3);
        badLaw("9;", 1, 0);
        badLaw("need 1 1;", 1, 0);
    }

    private void noLines() {
        sentence("TOWN: {LINE}. LAW: {LINE}. [without one, too]");
        goodTown(0, "");
        goodTown(0, " \n");
        goodLaw(0, "");
        goodLaw(0, " \n");
    }

    private void faultOneFirst() {
        sentence("Other FAULTS, if there is no FAULT 1");
        badTown("need 99 1;need", 1, 14);
        badTown("wall 1 1 1 1 1;wall 1 1 2 2 9;x", 1, 30);
        badTown(times(9, NEED) + "#", 1, 81);
        badTown("need 99 99", 1, 10);
        badLaw(SIXTEEN + "may", 1, 67);
        badLaw(SIXTEEN + "may;#", 1, 68);
        badLaw("if x=1 and x=1 and x=1 and x=1 and x:may;", 1, 36);
    }

    private void firstByPlace() {
        sentence("the first by place");
        badTown("need 1 99;need 99 1;", 2, 7);
        badTown("need 99 99;", 2, 5);
        badTown("wall 30 1 30 2 9;", 2, 5);
        badTown("wall 1 30 2 30 9;", 2, 7);
        badTown("wall 1 1 1 2 9;wall 1 1 1 1 0;", 2, 13);
        badTown("wall 1 1 1 1 9;need 99 1;", 3, 0);
        badTown("sender 1 1 6 0;", 2, 11);
        badTown("need 1 99;" + times(9, NEED), 2, 7);
        badTown(times(9, NEED) + "need 99 1;", 4, 72);
        badTown(times(8, NEED) + "need 99 1;", 4, 72);
        badTown(times(8, NEED) + "wall 1 1 1 1 0;" + NEED, 3, 72);
        badTown(times(8, NEED) + NEED + "wall 1 1 1 1 0;", 4, 72);
    }

    private void ofOnePlaceTheLeast() {
        sentence("of one place the least");
        badTown(times(12, "wall 1 1 1 2 0;") + "wall 1 1 1 1 0;", 3, 180);
        badTown(times(12, "wall 1 1 1 2 0;") + "wall 1 1 2 2 9;", 3, 180);
        badTown(times(12, "wall 1 1 1 2 0;") + "wall 1 1 1 2 9;", 4, 180);
        anew();
        town(12, times(12, "wall 1 1 1 2 0;"));
        town(NONE, " wall 1 1 1 1 0;");
        fault(3, 1);
        town(NONE, " wall 1 1 1 2 0;");
        fault(4, 1);
    }

    private void numbersThatCannotBe() {
        sentence("2 a NUMBER that can't be (at it)");
        badTown("wall 21 20 20 20 4;", 2, 5);
        badTown("wall 20 21 20 20 4;", 2, 8);
        badTown("wall 20 20 21 20 4;", 2, 11);
        badTown("wall 20 20 20 21 4;", 2, 14);
        badTown("wall 20 20 19 20 5;", 2, 17);
        badTown("sender 21 20 5 9999;", 2, 7);
        badTown("sender 20 21 5 9999;", 2, 10);
        badTown("sender 20 20 6 9999;", 2, 13);
        badTown("sender 20 20 5 0;", 2, 15);
        badTown("need 21 20;", 2, 5);
        badTown("need 20 21;", 2, 8);
        badTown("site 21 20 9999 999;", 2, 5);
        badTown("site 20 21 9999 999;", 2, 8);
        badTown("site 20 20 0 999;", 2, 11);
        badTown("site 20 20 9999 1000;", 2, 16);
        badTown("site 20 20 9999 0;", 2, 16);
        goodTown(4, "wall 20 20 19 20 4;sender 20 20 5 9999;need 20 20;site 20 20 9999 999;");
        goodTown(4, "wall 0 0 0 1 0;sender 0 0 0 1;need 0 0;site 0 0 1 1;");
    }

    private void oneTooManyWithThoseThatThereAre() {
        sentence("4 one too many of its sort, with those that there are (at its word)");
        town(10, times(10, "wall 0 0 0 5 0;"));
        town(5, times(5, "sender 1 1 1 1;"));
        town(14, times(7, NEED) + times(7, "site 1 1 1 1;"));
        town(NONE, NEED + "sender 1 1 1 1;site 1 1 1 1;wall 0 0 0 5 0;wall 0 0 0 5 0; wall 0 0 0 5 0;");
        fault(4, 68);
        town(NONE, "sender 1 1 1 1;sender 1 1 1 1;");
        fault(4, 15);
        town(NONE, NEED + NEED);
        fault(4, 9);
        town(NONE, "site 1 1 1 1;site 1 1 1 1;");
        fault(4, 13);
        row("count", new int[] {10, 5, 10, 5, 7, 7});
        town(5, NEED + "sender 1 1 1 1;site 1 1 1 1;wall 0 0 0 5 0;wall 0 0 0 5 0;");
        row("count", new int[] {12, 6, 12, 6, 8, 8});
    }

    private void inTheirOrder() {
        sentence("Without a FAULT all come in their order, on the DAY of now.");
        town(1, "wall 0 0 0 1 0;");
        yes("day", 8);
        yes("view", 3);
        town(8, "need 1 1;wall 1 0 1 1 1;site 1 1 1 7;sender 1 2 3 4;need 2 2;wall 2 0 2 1 2;sender 5 6 1 8;site 2 2 1 9;");
        is(0, "wall", 0, 5);
        row("wall", new int[] {1, 0, 1, 1, 1, 8, NONE}, 1);
        row("wall", new int[] {2, 0, 2, 1, 2, 8, NONE}, 2);
        row("sender", new int[] {1, 2, 3, 4, 8, NONE}, 0);
        row("sender", new int[] {5, 6, 1, 8, 8, NONE}, 1);
        // With what wall 0 throws back to (1, 1): 1000 / 4 by 50.
        is(1125, "serves", 0, 0);
        is(500, "serves", 0, 1);
        is(500, "serves", 1, 0);
        yes("set", 4, 501);
        is(16, "cover", 0);
    }

    private void mostLines() {
        sentence("5 one too many, at its first token: a 17th LINE");
        goodLaw(16, SIXTEEN);
        badLaw(SIXTEEN + "may;", 5, 64);
        badLaw(SIXTEEN + " \n if alone:may;", 5, 67);
        badLaw(SIXTEEN + SIXTEEN, 5, 64);
        goodLaw(16, times(16, "if alone:bar;"));
    }

    private void mostTests() {
        sentence("5 one too many, at its first token: .. a 5th TEST of a LINE");
        goodLaw(1, "if x=1 and x=1 and x=1 and x=1:may;");
        badLaw("if x=1 and x=1 and x=1 and x=1 and x=1:may;", 5, 35);
        badLaw("if x=1 and x=1 and x=1 and x=1 and  not x=1:may;", 5, 36);
        badLaw("if x=1 and x=1 and x=1 and x=1 and alone and x=1:may;", 5, 35);
        badLaw("may;if x=1 and x=1 and x=1 and x=1 and x=1:may;", 5, 39);
        goodLaw(2, "if x=1 and x=1 and x=1 and x=1:may;if x=1 and x=1 and x=1 and x=1:may;");
    }

    private void lawFaultsByPlace() {
        sentence("5 one too many, at its first token [the first by place]");
        badLaw(SIXTEEN + "if x=1 and x=1 and x=1 and x=1 and x=1:may;", 5, 64);
        badLaw("if x=1 and x=1 and x=1 and x=1 and x=1:may;" + SIXTEEN, 5, 35);
        anew();
        law(1, "bar;");
        law(NONE, SIXTEEN + "may;");
        is(1, "count", 8);
    }

    private void asManyAsTheTapeHas() {
        sentence("FAULT 1 .. the end's; other FAULTS, if there is no FAULT 1 [however many LINES and TESTS there are]");
        String seventy = "if x=1" + times(69, "and x=1") + ":may";
        badLaw(seventy + ";", 5, 31);
        badLaw(seventy, 1, 493);
        badLaw(seventy + ";#", 1, 494);
        badLaw(times(125, "may;"), 5, 64);
        badLaw(times(124, "may;") + "may:", 1, 499);
        badTown(times(62, "need1 1;"), 4, 64);
        badTown(times(62, "need1 1;") + "need", 1, 500);
    }

    private void hours() {
        sentence("A SENDER in an HOUR, 0 .. 23");
        town(1, "sender 1 1 1 1;");
        law(3, "if hour=0:may;if hour=23:may;bar;");
        is(0, "why", 0, 0);
        is(2, "why", 0, 1);
        is(2, "why", 0, 22);
        is(1, "why", 0, 23);
        is(NONE, "why", 0, 24);
        is(NONE, "why", 0, -1);
        is(1, "breach", 0);
        law(1, "if hour=23:bar;");
        is(23, "breach", 0);
        law(1, "if hour=24:bar;");
        is(NONE, "breach", 0);
        law(1, "if hour<24:bar;");
        is(0, "breach", 0);
    }

    private void firstLineWhoseTestsAllHold() {
        sentence("the first LINE whose TESTS all hold tells whether it MAY send, or is BARRED");
        town(1, "sender 1 2 3 4;");
        law(3, "if x=1 and y=2 and colour=3 and power=5:bar;if x=1 and y=2 and colour=3 and power=4:may;bar;");
        is(1, "why", 0, 0);
        is(NONE, "breach", 0);
        law(2, "bar;may;");
        is(0, "why", 0, 0);
        is(0, "breach", 0);
        law(2, "may;bar;");
        is(0, "why", 0, 0);
        is(NONE, "breach", 0);
        law(4, "if x=0 and y=2:bar;if x=1 and y=0:bar;if not x=1 and not y=0:bar;if y=2:may;");
        is(3, "why", 0, 0);
        law(16, times(15, "if x=0:bar;") + "if x=1:bar;");
        is(15, "why", 0, 0);
        is(0, "breach", 0);
    }

    private void withoutALine() {
        sentence("without one it MAY");
        town(1, "sender 1 2 3 4;");
        is(NONE, "why", 0, 0);
        is(NONE, "breach", 0);
        law(1, "if x=0:bar;");
        is(NONE, "why", 0, 0);
        is(NONE, "breach", 0);
        is(NONE, "breach", 1);
    }

    private void signsOfTests() {
        sentence("('colour' | 'power' | 'x' | 'y' | 'hour' | 'heard') ('<' | '>' | '=') NUMBER");
        String[] words = {"x", "y", "colour", "power", "hour", "heard"};
        int[] numbers = {7, 8, 3, 4, 9, 4000};
        for (int k = 0; k < words.length; k++) {
            anew();
            town(2, "sender 7 8 3 4;need 7 8;");
            for (int number = numbers[k] - 1; number <= numbers[k] + 1; number++) {
                int order = Integer.compare(numbers[k], number);
                law(1, "if " + words[k] + "<" + number + ":bar;");
                is(order < 0 ? 0 : NONE, "why", 0, 9);
                law(1, "if " + words[k] + ">" + number + ":bar;");
                is(order > 0 ? 0 : NONE, "why", 0, 9);
                law(1, "if " + words[k] + "=" + number + ":bar;");
                is(order == 0 ? 0 : NONE, "why", 0, 9);
            }
        }
    }

    private void notTurns() {
        sentence("TEST: ['not'] (..)");
        town(1, "sender 7 8 3 4;");
        law(3, "if not x=7:bar;if not x<8:bar;if not x>7:may;");
        is(2, "why", 0, 0);
        law(2, "if not alone:bar;if alone:may;");
        is(1, "why", 0, 0);
    }

    private void alone() {
        sentence("(alone: no other SENDER has its COLOUR");
        town(3, "sender 1 1 0 1;sender 2 2 5 1;sender 3 3 0 1;");
        law(1, "if alone:bar;");
        is(NONE, "why", 0, 0);
        is(0, "why", 1, 0);
        is(NONE, "why", 2, 0);
        yes("day", 1);
        yes("pull", 0, 0);
        is(NONE, "why", 0, 0);
        is(0, "why", 2, 0);
        yes("view", 0);
        is(NONE, "why", 2, 0);
    }

    private void heard() {
        sentence("heard: the greatest SIGNAL of it at a NEED .. 0 without NEEDS)");
        town(2, "sender 0 0 0 4;wall 9 9 9 10 0;");
        law(1, "if heard=0:bar;");
        is(0, "why", 0, 0);
        town(1, "need 0 2;");
        is(NONE, "why", 0, 0);
        law(2, "if heard=1000:bar;if heard=4000:may;");
        is(0, "why", 0, 0);
        town(1, "need 0 4;");
        is(0, "why", 0, 0);
        town(1, "need 1 0;");
        is(1, "why", 0, 0);
        // It is the SIGNAL that counts, not whether it is heard there.
        yes("set", 2, 9999);
        is(1, "why", 0, 0);
    }

    private void heardAtMost() {
        sentence("heard: .. 9999 at most");
        // 7999000 / 800 = 9998, 8000000 / 800 = 10000, and 9999000.
        town(4, "sender 0 0 0 7999;sender 0 0 1 8000;sender 20 20 2 9999;need 20 20;");
        law(2, "if heard=9998:may;if heard=9999:bar;");
        is(0, "why", 0, 0);
        is(1, "why", 1, 0);
        is(1, "why", 2, 0);
        law(1, "if heard>9998:bar;");
        is(NONE, "why", 0, 0);
        is(0, "why", 1, 0);
        law(1, "if heard>9999:bar;");
        is(NONE, "breach", 0);
        // The first that is asked of it.
        anew();
        town(3, "need 0 0;sender 0 2 0 4;sender 0 1 0 4;");
        law(1, "if heard>3999:bar;");
        is(1, "breach", 1);
    }

    private void breach() {
        sentence("BREACH: the first HOUR, in it the first SENDER, that is BARRED.");
        town(3, "sender 1 1 0 1;sender 2 2 0 1;sender 3 3 0 1;");
        law(2, "if x=1 and hour>8:bar;if x>1 and hour=8:bar;");
        is(8, "breach", 0);
        is(1, "breach", 1);
        law(1, "if x=3 and hour>5:bar;");
        is(6, "breach", 0);
        is(2, "breach", 1);
        law(1, "bar;");
        is(0, "breach", 0);
        is(0, "breach", 1);
        yes("pull", 0, 0);
        is(0, "breach", 0);
        is(1, "breach", 1);
    }
}
