/**
 * THE TEXT, its ORDERS and its FAULT, sentence by sentence. Each method tests
 * the edge of the sentence that it quotes.
 */
public final class TextEdgesTest {
    private static final int BAD = CounterDeals.BAD;
    private static final int FULL = CounterDeals.FULL;
    /** One of each ORDER, with as many numbers as it may have. */
    private static final String[] LONGEST = {"m0 1", "c0 1 2", "f0", "g0 1 0 0 1 2 3 4", "r0 1"};
    /** One of each ORDER, with as few numbers as it may have. */
    private static final String[] SHORTEST = {"m0 1", "c0 1 2", "f0", "g0 1 0 0 1", "r0 1"};

    public static void main(String[] args) {
        bytesAtMost();
        textOfAllItsBytes();
        clearedAndTypedAgain();
        endedBySemicolon();
        maskOrders();
        rateOrders();
        forkOrders();
        groupOrders();
        runOrders();
        oneToFourKinds();
        howManyNumbers();
        oneToThreeFigures();
        blanksAnywhere();
        blanksWithinANumber();
        blanksOnlyWhereNeeded();
        readWholeFirst();
        refusedThen();
        nothingIsDone();
        firstByteThatCanNotStand();
        endsTooEarly();
        emptyOrBlank();
        nothingCounts();
        textStays();
        numbersOfOrders();
        oneStateForAll();
        Due.end();
    }

    /** What does() answers for a text alone, on a new object. */
    private static int does(String text) {
        return Due.does(new CounterDeals(), text);
    }

    private static void done(String text, int orders) {
        Due.is("does \"" + text + "\"", does(text), orders);
    }

    private static void fault(String text, int place) {
        Due.is("FAULT of \"" + text + "\"", does(text), -10 - place);
    }

    private static void ends(String text, int order) {
        Due.is("\"" + text + "\" ends all", does(text), -1000 - order);
    }

    /** "THE TEXT (120 bytes at most)". */
    private static void bytesAtMost() {
        CounterDeals x = new CounterDeals();
        for (int i = 1; i <= 120; i++) {
            Due.is("how many it has", x.type(i % 128), i);
        }
        Due.is("one more", x.type(0), FULL);
        Due.is("one more that is BAD", x.type(128), BAD);
        Due.is("bytes", x.refused(3), 120);
        Due.is("clear", x.clear(), 120);
        Due.is("room again", x.type(127), 1);
    }

    private static void textOfAllItsBytes() {
        done("m0 1;" + " ".repeat(115), 1);
        done(" ".repeat(115) + "m0 1;", 1);
        done("m" + " ".repeat(115) + "0 1;", 1);
        fault(" ".repeat(115) + "m0 1 ", 120);
        fault(" ".repeat(119) + ";", 119);
        CounterDeals x = new CounterDeals();
        Due.type(x, " ".repeat(116) + "m0 1;");
        Due.is("the 121st byte is not in it", x.does(), -10 - 120);
        Due.is("it was refused", x.refused(2), 1);
    }

    private static void clearedAndTypedAgain() {
        CounterDeals x = new CounterDeals();
        Due.type(x, "f0;f0;f0;");
        x.clear();
        Due.type(x, "f0");
        Due.is("nothing of what was behind", x.does(), -12);
        Due.is("TASKS", x.told(1), 1);
        Due.is("the last byte", x.type(';'), 3);
        Due.is("one ORDER", x.does(), 1);
    }

    /** "tells ORDERS, each ended by ;". */
    private static void endedBySemicolon() {
        for (String order : SHORTEST) {
            done(order + ";", 1);
            fault(order, order.length());
            fault(order + " ", order.length() + 1);
            fault(order + ";;", order.length() + 1);
            fault(order + "; ;", order.length() + 2);
            fault(order + ":", order.length());
            fault(order + ";" + order, 2 * order.length() + 1);
            for (String other : SHORTEST) {
                done(order + ";" + other + ";", 2);
                fault(order + other, order.length());
                fault(order + " " + other, order.length() + 1);
            }
        }
    }

    /** "m k v (as masks)". */
    private static void maskOrders() {
        done("m0 0;", 1);
        done("m7 15;", 1);
        ends("m8 15;", 0);
        ends("m7 16;", 0);
        ends("m999 0;", 0);
        ends("m0 999;", 0);
        CounterDeals x = new CounterDeals();
        Due.does(x, "m6 9;");
        Due.is("MASK", x.masks(6, 15), 9);
    }

    /** "c t k v (as rates)". */
    private static void rateOrders() {
        done("c0 0 0;", 1);
        done("c0 7 99;", 1);
        ends("c1 0 0;", 0);
        ends("c0 8 0;", 0);
        ends("c0 0 100;", 0);
        done("f0;c1 7 99;", 2);
        ends("f0;c2 7 99;", 1);
        CounterDeals x = new CounterDeals();
        Due.does(x, "f0;c1 2 34;");
        Due.is("RATE in 1", x.rates(1, 2, 0), 34);
        Due.is("RATE in 0", x.rates(0, 2, 0), 0);
    }

    /** "f t (as forks)". */
    private static void forkOrders() {
        ends("f1;", 0);
        done("f0;f1;f2;f3;f4;", 5);
        ends("f0;f1;f2;f3;f4;f5;", 5);
        ends("f0;f2;", 1);
        CounterDeals x = new CounterDeals();
        x.forks(0);
        x.exits(1);
        Due.is("of one that ENDED", Due.does(x, "f0;f1;"), -1001);
        Due.is("TASKS", x.told(1), 2);
        Due.is("of another", Due.does(x, "f0;f2;"), 2);
        Due.is("PARENT", x.task(3, 0), 2);
    }

    /** "g t w a b k .. (as group, a PINNED, b INHERITS, ..)". */
    private static void groupOrders() {
        done("g0 1 0 0 0;", 1);
        done("g0 5 1 1 7;", 1);
        ends("g1 1 0 0 0;", 0);
        ends("g0 0 0 0 0;", 0);
        ends("g0 6 0 0 0;", 0);
        ends("g0 1 2 0 0;", 0);
        ends("g0 1 0 2 0;", 0);
        ends("g0 1 0 0 8;", 0);
        done("g0 1 0 0 0;".repeat(6), 6);
        ends("g0 1 0 0 0;".repeat(7), 6);
        CounterDeals x = new CounterDeals();
        Due.does(x, "f0;g1 4 1 0 5;g0 3 0 1 6;");
        int[] pinned = {1, 4, 1, 0};
        int[] queued = {0, 3, 0, 1};
        for (int what = 0; what < 4; what++) {
            Due.is("of(0, " + what + ")", x.of(0, what), pinned[what]);
            Due.is("of(1, " + what + ")", x.of(1, what), queued[what]);
        }
    }

    /** "r t n (as runs)". */
    private static void runOrders() {
        done("r0 1;", 1);
        done("r0 20;", 1);
        ends("r0 0;", 0);
        ends("r0 21;", 0);
        ends("r1 1;", 0);
        CounterDeals x = new CounterDeals();
        x.forks(0);
        Due.is("of another TASK", Due.does(x, "r1 20;r0 1;"), 2);
        Due.is("T", x.told(3), 21);
        x.exits(1);
        Due.is("of one that ENDED", Due.does(x, "r0 1;r1 1;"), -1001);
        Due.is("T stays", x.told(3), 21);
    }

    /** "1 to 4 KINDS"; "of a 5th KIND its first figure". */
    private static void oneToFourKinds() {
        fault("g0 1 0 0;", 8);
        fault("g0 1 0 0 ;", 9);
        String text = "g0 1 0 0";
        for (int kinds = 1; kinds <= 4; kinds++) {
            text += " " + (8 - kinds);
            CounterDeals x = new CounterDeals();
            Due.is("does \"" + text + ";\"", Due.does(x, text + ";"), 1);
            Due.is("EVENTS", x.of(0, 5), kinds);
            for (int e = 0; e < kinds; e++) {
                Due.is("KIND of " + e, x.about(0, e, 0), 7 - e);
            }
            ends(text.substring(0, text.length() - 1) + "8;", 0);
        }
        fault(text + " 3;", text.length() + 1);
        fault(text + " 333;", text.length() + 1);
        fault(text + "   3", text.length() + 3);
        ends("g0 1 0 0 8 7 7 7;", 0);
        ends("g0 1 0 0 7 8 7 7;", 0);
    }

    /** As many numbers as are told: one less, one more. */
    private static void howManyNumbers() {
        for (int i = 0; i < LONGEST.length; i++) {
            String most = LONGEST[i];
            done(most + ";", 1);
            fault(most + " 0;", most.length() + 1);
            fault(most + " 000;", most.length() + 1);
            String less = SHORTEST[i].substring(0, SHORTEST[i].length() - 1);
            fault(less + ";", less.length());
            fault(less + " ;", less.length() + 1);
            fault(less.charAt(0) + ";", 1);
        }
    }

    /** "Numbers have 1 to 3 figures"; "a fourth figure". */
    private static void oneToThreeFigures() {
        for (String order : LONGEST) {
            for (int i = 1; i < order.length(); i++) {
                if (order.charAt(i) == ' ') {
                    continue;
                }
                String ahead = order.substring(0, i);
                String behind = order.substring(i) + ";";
                done(ahead + "0" + behind, 1);
                done(ahead + "00" + behind, 1);
                fault(ahead + "000" + behind, i + 3);
                fault(ahead + "0000" + behind, i + 3);
            }
        }
        ends("r0 999;", 0);
        fault("r0 1000;", 6);
        done("r000 020;", 1);
        CounterDeals x = new CounterDeals();
        Due.does(x, "c0 0 098;r0 012;");
        Due.is("098", x.rates(0, 0, 0), 98);
        Due.is("012", x.told(3), 12);
    }

    /** "blanks (32) may stand anywhere but within a number". */
    private static void blanksAnywhere() {
        for (String order : LONGEST) {
            String text = order + ";";
            for (int i = 0; i <= text.length(); i++) {
                done(text.substring(0, i) + " " + text.substring(i), 1);
                done(text.substring(0, i) + "   " + text.substring(i), 1);
            }
            done(text + " " + SHORTEST[0] + ";", 2);
        }
        for (int sign : new int[] {0, 9, 10, 13, 31, 33, 95, 127}) {
            fault("f" + (char) sign + "0;", 1);
            fault((char) sign + "f0;", 0);
            fault("f0;" + (char) sign, 3);
        }
    }

    /** A blank within figures makes two numbers of them. */
    private static void blanksWithinANumber() {
        fault("r0 2 0;", 5);
        fault("f0 0;", 3);
        fault("c0 1 9 9;", 7);
        CounterDeals x = new CounterDeals();
        Due.is("m1 5 is not m15", Due.does(x, "m1 5;"), 1);
        Due.is("MASK of 1", x.masks(1, 15), 5);
        Due.is("g of 12 and of 1 2", Due.does(x, "g0 1 0 0 1 2;"), 1);
        Due.is("EVENTS", x.of(0, 5), 2);
        ends("g0 1 0 0 12;", 0);
    }

    /** "needed only where figures of two numbers would else stand side by side". */
    private static void blanksOnlyWhereNeeded() {
        done("m0 1;c0 1 2;f0;g0 1 0 0 1 2 3 4;r0 1;", 5);
        fault("m01;", 3);
        fault("c012;", 4);
        fault("c0 12;", 5);
        fault("r01;", 3);
        fault("g01001;", 4);
    }

    /** "THE TEXT is read whole first": a FAULT comes ahead of a refused ORDER. */
    private static void readWholeFirst() {
        fault("f9;x", 3);
        fault("m8 1;f0", 7);
        fault("r0 0;r0 99;g0 9 9 9 9 9 9 9 9", 28);
        CounterDeals x = new CounterDeals();
        Due.is("a FAULT behind right ORDERS", Due.does(x, "f0;r0 9;f0;?"), -21);
        Due.is("TASKS", x.told(1), 1);
        Due.is("T", x.told(3), 0);
    }

    /** "an ORDER that its call would refuse then": as all is ahead of it. */
    private static void refusedThen() {
        done("f0;r1 1;", 2);
        ends("r1 1;f0;", 0);
        done("f0;f1;g2 1 0 0 0;c2 0 9;r2 20;", 5);
        ends("g1 1 0 0 0;f0;", 0);
        ends("f0;f0;f0;f0;f0;f0;", 5);
        CounterDeals x = new CounterDeals();
        Due.is("six TASKS by two texts", Due.does(x, "f0;f0;f0;"), 3);
        Due.is("the third is too many", x.does(), -1002);
        Due.is("two are not", Due.does(x, "f0;f0;"), 2);
    }

    /** "ends all, nothing is done": neither ahead of it nor behind it. */
    private static void nothingIsDone() {
        String[] texts = {"m0 1;c0 0 9;f0;g0 1 0 1 0 1;r0 7;r1 7;f9;m1 1;", "f9;m0 1;", "m0 1;g0 1 0 0 0 8;",
            "g0 1 0 0 0 1 2 8;", "g0 1 1 0 1 7 7 8;r0 5;"};
        for (String text : texts) {
            CounterDeals x = new CounterDeals();
            x.rates(0, 0, 77);
            x.group(0, 2, 1, 1, 0);
            x.periods(0, 40);
            x.runs(0, 2);
            Due.type(x, text);
            long digest = x.digest();
            Due.holds("\"" + text + "\" ends all", x.does() <= -1000);
            Due.is("\"" + text + "\": nothing is done", x.digest(), digest);
            x.runs(0, 3);
            Due.is("\"" + text + "\": what waited is TOLD", x.told(4), 7);
        }
    }

    /** "the place of the first byte that can not stand there". */
    private static void firstByteThatCanNotStand() {
        String right = "m0 1;c0 1 2;f0;g0 1 0 0 1 2 3 4;r0 1;";
        for (int i = 0; i <= right.length(); i++) {
            fault(right.substring(0, i) + "!" + right.substring(i), i);
            fault(right.substring(0, i) + "!!", i);
        }
        String last = right + right + " ".repeat(119 - 2 * right.length());
        fault(last + "!", 119);
        fault("M0 1;", 0);
        fault("k0;", 0);
        fault("-1", 0);
        fault("f-0;", 1);
        fault("f/;", 1);
        fault("f:;", 1);
    }

    /** "the TEXT's length, if it ends too early". */
    private static void endsTooEarly() {
        String right = "m 0 1 ; c0 1 2; f0 ;g0 1 0 0 1 2 3 4;r0 1; ";
        int orders = 0;
        boolean open = true;
        for (int length = 1; length <= right.length(); length++) {
            char last = right.charAt(length - 1);
            orders += last == ';' ? 1 : 0;
            open = last != ';' && (last != ' ' || open);
            String text = right.substring(0, length);
            Due.is("does \"" + text + "\"", does(text), open ? -10 - length : orders);
        }
        Due.is("all five", orders, 5);
    }

    /** "(one that is empty or has blanks alone, too)". */
    private static void emptyOrBlank() {
        for (int length = 0; length <= 120; length++) {
            CounterDeals x = new CounterDeals();
            Due.is("blanks alone, " + length, Due.does(x, " ".repeat(length)), -10 - length);
            Due.is("no S", x.refused(4), 0);
        }
    }

    /** "By THE TEXT nothing counts". */
    private static void nothingCounts() {
        String[] texts = {"", "x", "f0", "f9;", "m8 1;", "r0 21;", "f0;f0;f0;f0;f0;f0;", "g0 1 0 0 0;".repeat(7),
            "f0;r0 2;", "g0 1 0 0 0 1 2 3;"};
        for (String text : texts) {
            CounterDeals x = new CounterDeals();
            Due.does(x, text);
            for (int what = 0; what < 3; what++) {
                Due.is("\"" + text + "\": how often, " + what, x.refused(what), 0);
            }
        }
        CounterDeals y = new CounterDeals();
        y.forks(0);
        y.exits(1);
        Due.is("NO", Due.does(y, "f1;"), -1000);
        Due.is("NO by THE TEXT", y.refused(1), 0);
        Due.is("the call itself", y.forks(1), CounterDeals.NO);
        Due.is("counts", y.refused(1), 1);
    }

    /** "ORDERS are done (THE TEXT stays)": after a FAULT and an end, too. */
    private static void textStays() {
        CounterDeals x = new CounterDeals();
        Due.is("does", Due.does(x, "f0;r0 5;"), 2);
        Due.is("bytes", x.refused(3), 8);
        Due.is("does again", x.does(), 2);
        Due.is("T", x.told(3), 10);
        x.back();
        Due.is("bytes, back", x.refused(3), 8);
        Due.is("does behind back", x.does(), 2);
        Due.is("an end", Due.does(x, "f9;"), -1000);
        Due.is("bytes behind an end", x.refused(3), 3);
        Due.is("an end again", x.does(), -1000);
        Due.is("a FAULT", Due.does(x, "f0;f"), -14);
        Due.is("bytes behind a FAULT", x.refused(3), 4);
        Due.type(x, "1;");
        Due.is("typed on", x.does(), 2);
    }

    /** "-1000 less the number (0 on) of the ORDER that ends all". */
    private static void numbersOfOrders() {
        for (int ahead = 0; ahead <= 23; ahead++) {
            ends("m0 1;".repeat(ahead) + "f9;", ahead);
            ends("m0 1;".repeat(Math.min(ahead, 22)) + "f9;f8;", Math.min(ahead, 22));
        }
        ends("f0;".repeat(5) + "m0 1;".repeat(20) + "f9;", 25);
        done("f0;".repeat(5) + "m0 1;".repeat(21), 26);
        ends("f0;".repeat(40), 5);
        fault("f0;".repeat(39) + "f0:", 119);
    }

    /** "S (one STATE for all)"; a FAULT, an end: "no S". */
    private static void oneStateForAll() {
        CounterDeals x = new CounterDeals();
        Due.is("does", Due.does(x, "f0;r0 5;r1 5;m0 1;"), 4);
        Due.is("one STATE", x.refused(4), 1);
        Due.is("nothing becomes other: one yet", Due.does(x, "m0 1;"), 1);
        Due.is("two STATES", x.refused(4), 2);
        Due.does(x, "f");
        Due.does(x, "f0;f9;");
        Due.is("no STATE more", x.refused(4), 2);
        Due.is("back", x.back(), 1);
        Due.is("TASKS", x.told(1), 2);
        Due.is("back", x.back(), 0);
        Due.is("TASKS", x.told(1), 1);
        Due.is("T", x.told(3), 0);
        Due.is("MASK", x.masks(0, 15), 15);
    }
}
