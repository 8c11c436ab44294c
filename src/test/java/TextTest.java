/** THE TEXT: where bytes can stand, FAULTS, and ORDERS that are refused. */
public final class TextTest {
    public static void main(String[] args) {
        rightTexts();
        faults();
        endsTooEarly();
        bytesThatNeverStand();
        refusedOrders();
        ordersSeeEarlierOnes();
        ordersAsTheirCalls();
        longTexts();
        Due.end();
    }

    private static void does(String text, int due) {
        Due.is("does \"" + text + "\"", Due.does(new CounterDeals(), text), due);
    }

    private static void fault(String text, int place) {
        CounterDeals x = new CounterDeals();
        Due.is("FAULT of \"" + text + "\"", Due.does(x, text), -10 - place);
        Due.is("no S", x.refused(4), 0);
        Due.is("nothing counts", x.refused(0) + x.refused(1) + x.refused(2), 0);
        x.clear();
        Due.is("nothing is done", x.digest(), new CounterDeals().digest());
    }

    private static void rightTexts() {
        does("f0;", 1);
        does("  f  0  ;  ", 1);
        does("f000;", 1);
        does("f00 ;f 1;", 2);
        does("m0 1;", 1);
        does("m 7  15 ;", 1);
        does("m007 015;", 1);
        does("c0 0 0;", 1);
        does("c0 7 99;", 1);
        does("r0 20;", 1);
        does("g0 1 0 0 0;", 1);
        does("g 0 5 1 1 7 7 7 7;", 1);
        does("g0 1 0 0 0 ;g0 1 0 0 0 1;g0 1 0 0 0 1 2;g0 1 0 0 0 1 2 3;", 4);
    }

    private static void faults() {
        fault("x", 0);
        fault(";", 0);
        fault("0", 0);
        fault(" ;", 1);
        fault("ff0;", 1);
        fault("f;", 1);
        fault("f ;", 2);
        fault("f0 0;", 3);
        fault("f0000;", 4);
        fault("f0;;", 3);
        fault("f0;x", 3);
        fault("f0; 1", 4);
        fault("f0,", 2);
        fault("f-1;", 1);
        fault("F0;", 0);
        fault("m0;", 2);
        fault("m0 1 2;", 5);
        fault("m01;", 3);
        fault("m0 1m", 4);
        fault("m0 1 f0;", 5);
        fault("m 0 0001;", 7);
        fault("c0 1;", 4);
        fault("c0 1 2 3;", 7);
        fault("c0 1 1000;", 8);
        fault("r0;", 2);
        fault("r0 1 1;", 5);
        fault("g0 1 0 0;", 8);
        fault("g0 1 0 0 ;", 9);
        fault("g0 1 0 0 1 2 3 4 5;", 17);
        fault("g0 1 0 0 1 2 3 4   555;", 19);
        fault("g0 1 0 0 1 2 3 4444;", 18);
        fault("g0 1 0 0 1 2 3 444 4;", 19);
        fault("g0 1 0 0 1234;", 12);
        fault("f0;f0;f0;f!;", 10);
    }

    private static void endsTooEarly() {
        fault("", 0);
        fault(" ", 1);
        fault("    ", 4);
        fault("f", 1);
        fault("f0", 2);
        fault("f0 ", 3);
        fault("f0;m", 4);
        fault("f0; g0 1 0 0 1 2 3 4", 20);
        fault("m", 1);
        fault("m0", 2);
        fault("m0 1", 4);
        fault(" ".repeat(120), 120);
        fault("f0;".repeat(39) + "f0 ", 120);
    }

    private static void bytesThatNeverStand() {
        for (int c = 0; c < 128; c++) {
            boolean blank = c == ' ';
            boolean letter = "mcfgr".indexOf(c) >= 0;
            boolean figure = c >= '0' && c <= '9';
            char sign = (char) c;
            // Where it can stand, the text ends too early or is whole.
            fault(String.valueOf(sign), blank || letter ? 1 : 0);
            fault("f" + sign, blank || figure ? 2 : 1);
            if (c != ';') {
                fault("f0" + sign, blank || figure ? 3 : 2);
                fault("f0 " + sign, blank ? 4 : 3);
            }
        }
    }

    private static void refused(String text, int number) {
        CounterDeals x = new CounterDeals();
        x.rates(0, 0, 50);
        x.group(0, 1, 0, 1, 0);
        x.forks(0);
        x.exits(1);
        Due.type(x, text);
        long digest = x.digest();
        Due.is("does \"" + text + "\"", x.does(), -1000 - number);
        Due.is("nothing is done, no S, nothing counts", x.digest(), digest);
    }

    private static void refusedOrders() {
        refused("m8 1;", 0);
        refused("m0 16;", 0);
        refused("c2 0 0;", 0);
        refused("c0 8 0;", 0);
        refused("c0 0 100;", 0);
        refused("f2;", 0);
        refused("f1;", 0);
        refused("r0 0;", 0);
        refused("r0 21;", 0);
        refused("r2 1;", 0);
        refused("r1 1;", 0);
        refused("g2 1 0 0 0;", 0);
        refused("g0 0 0 0 0;", 0);
        refused("g0 6 0 0 0;", 0);
        refused("g0 1 2 0 0;", 0);
        refused("g0 1 0 2 0;", 0);
        refused("g0 1 0 0 8;", 0);
        refused("g0 1 0 0 0 8;", 0);
        refused("g0 1 0 0 0 1 8;", 0);
        refused("g0 1 0 0 0 1 2 8;", 0);
        refused("g0 1 0 0 0 8 2 3;", 0);
        refused("m0 1;m1 2;c0 0 9;r0 20;f0;m8 1;f0;", 5);
        refused("f0;f0;f0;f0;f0;", 4);
        refused("g0 1 0 0 0;".repeat(6), 5);
        refused("r0 5;r0 999;", 1);
    }

    private static void ordersSeeEarlierOnes() {
        does("f0;f1;f2;r3 1;", 4);
        does("c1 0 5;f0;", -1000);
        does("f0;c1 0 5;g1 1 0 0 0;r1 2;", 4);
        CounterDeals x = new CounterDeals();
        Due.is("does", Due.does(x, "c0 0 9;g0 1 0 1 0;f0;c1 0 4;r1 3;r0 1;"), 6);
        Due.is("COUNT in 1", x.count(0, 0, 1), 12);
        Due.is("COUNT in 0", x.count(0, 0, 0), 9);
    }

    private static void ordersAsTheirCalls() {
        CounterDeals x = new CounterDeals();
        CounterDeals y = new CounterDeals();
        String text = "m5 10;c0 5 77;f0;g1 3 1 0 5 6;g0 2 0 1 4 3 2 1;r1 7;r0 20;";
        Due.is("does", Due.does(x, text), 7);
        y.masks(5, 10);
        y.rates(0, 5, 77);
        y.forks(0);
        y.group(1, 3, 1, 0, 5);
        y.event(0, 6);
        y.group(0, 2, 0, 1, 4);
        y.event(1, 3);
        y.event(1, 2);
        y.event(1, 1);
        y.runs(1, 7);
        y.runs(0, 20);
        Due.is("one STATE", x.refused(4), 1);
        while (x.refused(4) < 5) {
            x.skids(1);
        }
        Due.type(y, text);
        Due.is("all is as by calls", x.digest(), y.digest());
        Due.is("does again", x.clear() + Due.does(x, "r1 1;"), text.length() + 1);
    }

    private static void longTexts() {
        CounterDeals x = new CounterDeals();
        Due.is("120 bytes", Due.does(x, "f0;".repeat(5) + "m0 1;".repeat(21)), 26);
        CounterDeals y = new CounterDeals();
        Due.is("as many as can be", Due.does(y, "f0;".repeat(40)), -1005);
        Due.is("does twice", x.does(), -1000);
        CounterDeals z = new CounterDeals();
        Due.is("400 SLICES", Due.does(z, "r0 20;".repeat(20)), 20);
        Due.is("T", z.told(3), 400);
        Due.is("again", z.does(), 20);
        Due.is("T", z.told(3), 800);
        Due.is("back", z.back(), 1);
        Due.is("T", z.told(3), 400);
    }
}
