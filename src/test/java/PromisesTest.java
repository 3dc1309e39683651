/** Each promise of the document by hand: ordinary inputs, edges, wrong inputs. */
public final class PromisesTest {
    private static final int NO = Integer.MIN_VALUE;
    private static final int NONE = CubicSigns.NONE;
    private static final Check check = new Check("PromisesTest");

    public static void main(String[] args) {
        newObject();
        feed();
        write();
        writeFaults();
        put();
        take();
        told();
        work();
        workBounds();
        change();
        are();
        written();
        divisors();
        signBy();
        residue();
        power();
        inverse();
        classes();
        root();
        linear();
        spread();
        order();
        greatest();
        least();
        both();
        parting();
        steps();
        direct();
        sign();
        turned();
        supplement();
        prime();
        sum();
        split();
        thirds();
        primeAt();
        crowd();
        letter();
        length();
        middle();
        nearest();
        ring();
        disk();
        ringAt();
        drawn();
        count();
        keepAndUndo();
        check.end();
    }

    private static void due(String call, long got, long want) {
        check.due(call, got, want);
    }

    private static void due(String call, boolean got, boolean want) {
        check.due(call, got, want);
    }

    /** Drawers 0, 1, .. with a and b by turns. */
    private static CubicSigns with(int... parts) {
        CubicSigns x = new CubicSigns();
        for (int i = 0; i + 1 < parts.length; i += 2) {
            due("put", x.put(i / 2, parts[i], parts[i + 1]), true);
        }
        return x;
    }

    private static void holds(String call, CubicSigns x, int d, int a, int b) {
        due(call + " a", x.told(d, 0), a);
        due(call + " b", x.told(d, 1), b);
    }

    private static int feedText(CubicSigns x, String text) {
        int[] words = new int[5 * ((text.length() + 19) / 20)];
        for (int i = 0; i < 4 * words.length; i++) {
            int letter = i < text.length() ? text.charAt(i) : 'z';
            words[i / 4] |= letter << (24 - 8 * (i % 4));
        }
        int answer = 0;
        for (int i = 0; i < words.length; i += 5) {
            answer = x.feed(words[i], words[i + 1], words[i + 2], words[i + 3], words[i + 4]);
        }
        return answer;
    }

    private static void reads(String text, int a, int b) {
        CubicSigns x = new CubicSigns();
        feedText(x, text);
        due("write '" + text + "'", x.write(3, text.length()), 0);
        holds("write '" + text + "'", x, 3, a, b);
        due("tape", x.count(1), 0);
    }

    private static void faults(String text, int number, int place) {
        CubicSigns x = with(7, 8);
        feedText(x, text);
        due("write '" + text + "'", x.write(0, text.length()), -1000 * number - place);
        holds("what was there stays", x, 0, 7, 8);
        due("the tape is empty behind a fault", x.count(1), 0);
        due("nothing else came", x.count(0), 1);
    }

    private static void newObject() {
        CubicSigns x = new CubicSigns();
        for (int d = 0; d < 8; d++) {
            due("new told", x.told(d, 0), NO);
            due("new take", x.take(d), 0);
        }
        due("new count 0", x.count(0), 0);
        due("new count 1", x.count(1), 0);
        due("new count 2", x.count(2), 0);
        due("NONE", NONE, -1);
    }

    private static void feed() {
        CubicSigns x = new CubicSigns();
        for (int i = 1; i <= 4; i++) {
            due("feed", x.feed(0x31202020, 0x20202020, 0x20202020, 0x20202020, 0x2D32770A), 20 * i);
        }
        due("feed full", x.feed(1, 2, 3, 4, 5), NONE);
        due("tape", x.count(1), 80);
        due("write 19", x.write(0, 19), 0);
        holds("highest byte first", x, 0, 1, -2);
        due("feed again", x.feed(0xFFFFFFFF, 0, 0, 0, 0), 20);
        due("a byte of 255", x.write(0, 1), -1000);
    }

    private static void write() {
        reads("0", 0, 0);
        reads("w", 0, 1);
        reads("-w", 0, -1);
        reads("+ w", 0, 1);
        reads("9999-9999w", 9999, -9999);
        reads("5w+3", 3, 5);
        reads(" - 0012  w  +  7 ", 7, -12);
        reads("0w", 0, 0);
        reads("3 w", 0, 3);
        reads("1+w", 1, 1);
        reads("w-1", -1, 1);
        reads("12                                 - 34w", 12, -34);
        CubicSigns x = new CubicSigns();
        feedText(x, "12");
        due("write no drawer", x.write(8, 2), NONE);
        due("write no drawer", x.write(-1, 2), NONE);
        due("write 0", x.write(0, 0), NONE);
        due("write -1", x.write(0, -1), NONE);
        due("write not so many", x.write(0, 21), NONE);
        due("the tape stays", x.count(1), 20);
        feedText(x, "3");
        feedText(x, "3");
        due("write 41", x.write(0, 41), NONE);
        due("the tape stays", x.count(1), 60);
        due("write first of the tape", x.write(0, 2), 0);
        holds("first of the tape", x, 0, 12, 0);
        due("all is gone", x.count(1), 0);
    }

    private static void writeFaults() {
        faults("a", 1, 0);
        faults(" ", 1, 1);
        faults("+", 1, 1);
        faults("- ", 1, 2);
        faults("+-3", 1, 1);
        faults("1 2", 1, 2);
        faults("3 w w", 1, 4);
        faults("w3", 1, 1);
        faults("3+", 1, 2);
        faults("3+a", 1, 2);
        faults("3*w", 1, 1);
        faults("W", 1, 0);
        faults("\t3", 1, 0);
        faults("12345", 2, 4);
        faults("00001", 2, 4);
        faults("3-00001w", 2, 6);
        faults("1+12345", 2, 6);
        faults("3+4", 3, 1);
        faults("w - w", 3, 2);
        faults("3w+4 w", 3, 2);
        faults("3+w-4", 3, 3);
        faults("3+w+4w", 3, 3);
        faults("3+4+w", 3, 1);
        faults("3+4a", 3, 1);
        faults("3+4 4", 3, 1);
        faults("3+ a", 1, 3);
        faults("3+4w4", 1, 4);
        faults("1+2w                                   x", 1, 39);
    }

    private static void put() {
        CubicSigns x = new CubicSigns();
        due("put", x.put(0, 9999, -9999), true);
        due("put", x.put(7, -9999, 9999), true);
        holds("put", x, 0, 9999, -9999);
        holds("put", x, 7, -9999, 9999);
        due("put a", x.put(0, 10000, 0), false);
        due("put a", x.put(0, -10000, 0), false);
        due("put b", x.put(0, 0, 10000), false);
        due("put b", x.put(0, 0, -10000), false);
        due("put b", x.put(0, 0, Integer.MIN_VALUE), false);
        due("put d", x.put(8, 0, 0), false);
        due("put d", x.put(-1, 0, 0), false);
        holds("a refused put", x, 0, 9999, -9999);
        due("count", x.count(0), 129);
    }

    private static void take() {
        CubicSigns x = with(1, 2, 3, 4);
        due("take", x.take(0), 1);
        due("take again", x.take(0), 0);
        due("take", x.take(-1), NONE);
        due("take", x.take(8), NONE);
        due("told", x.told(0, 0), NO);
        due("count", x.count(0), 2);
    }

    private static void told() {
        CubicSigns x = with(3, -2, 0, 0, 2, 0, 9, 0, -1, 0, 9999, -9999, 7, 0, 2, 3);
        long[][] want = {
            {3, -2, 19, 0, 0, 1, -1, 0},
            {0, 0, 0, 1, 0, 0, -1, -1},
            {2, 0, 4, 0, 1, 1, -1, 0},
            {9, 0, 81, 1, 0, 0, -1, 4},
            {-1, 0, 1, 0, 1, 0, 3, 0},
            {9999, -9999, 299940003, 1, 0, 0, -1, 5},
            {7, 0, 49, 0, 0, 0, -1, 0},
            {2, 3, 7, 0, 1, 1, -1, 0},
        };
        for (int d = 0; d < want.length; d++) {
            for (int what = 0; what < 8; what++) {
                due("told(" + d + ", " + what + ")", x.told(d, what), want[d][what]);
            }
        }
        int[][] units = {{1, 0}, {1, 1}, {0, 1}, {-1, 0}, {-1, -1}, {0, -1}};
        for (int u = 0; u < 6; u++) {
            x.put(0, units[u][0], units[u][1]);
            due("unit", x.told(0, 6), u);
            due("no prime", x.told(0, 5), 0);
        }
        x.put(0, 1, -1);
        due("1 - w is prime", x.told(0, 5), 1);
        due("1 - w once", x.told(0, 7), 1);
        x.put(0, 3, 0);
        due("3 is no prime", x.told(0, 5), 0);
        due("3 has two of 1 - w", x.told(0, 7), 2);
        x.put(0, 0, 9973);
        due("9973 splits", x.told(0, 5), 0);
        x.put(0, 9887, 9887);
        due("9887 is inert", x.told(0, 5), 1);
        due("told what", x.told(0, 8), NO);
        due("told what", x.told(0, -1), NO);
        due("told d", x.told(8, 0), NO);
        due("told d", x.told(-1, 0), NO);
    }

    private static void work() {
        CubicSigns x = with(3, -2, 2, 3);
        int[][] want = {{5, 1, 21}, {1, -5, 31}, {12, 11, 133}, {-1, -2, 3}, {-1, -1, 1}, {-1, 0, 1}};
        for (int how = 0; how < 6; how++) {
            due("work " + how, x.work(0, 1, 2, how), want[how][2]);
            holds("work " + how, x, 2, want[how][0], want[how][1]);
        }
        due("work into itself", x.work(0, 0, 0, 2), 361);
        holds("work into itself", x, 0, 5, -16);
        x.put(3, 0, 0);
        due("by 0", x.work(0, 3, 4, 3), -3);
        due("by 0", x.work(0, 3, 4, 4), -3);
        due("of both 0", x.work(3, 3, 4, 5), -3);
        due("0 by one", x.work(3, 1, 4, 3), 0);
        due("with 0", x.work(3, 1, 4, 5), 7);
        holds("with 0", x, 4, 2, 3);
        due("with 0", x.work(1, 3, 4, 5), 7);
        x.put(5, 6, 0);
        x.put(6, 9, 9);
        due("divisor 6, 9", x.work(5, 6, 7, 5), 9);
        // (1 - w) to the 2 is -3 w, times the primary unit -1
        holds("divisor 6, 9", x, 7, 0, 3);
        due("work d", x.work(8, 0, 0, 0), NONE);
        due("work e", x.work(0, -1, 0, 0), NONE);
        due("work f", x.work(0, 0, 8, 0), NONE);
        due("work how", x.work(0, 0, 0, -1), NONE);
        due("work how", x.work(0, 0, 0, 6), NONE);
        x.take(7);
        due("work empty", x.work(7, 0, 0, 0), -2);
        due("work empty", x.work(0, 7, 0, 0), -2);
        due("work NONE ahead of empty", x.work(7, 7, 0, 6), NONE);
        due("work empty ahead of 0", x.work(7, 3, 0, 3), -2);
    }

    private static void workBounds() {
        CubicSigns x = with(9999, 0, 1, 0, -9999, 9999, 0, 1, 100, 0, 1, 1, 9999, 9998);
        due("beyond", x.work(0, 1, 7, 0), -4);
        due("nothing came", x.told(7, 0), NO);
        due("beyond", x.work(2, 1, 7, 1), -4);
        due("beyond", x.work(0, 4, 7, 2), -4);
        due("beyond", x.work(2, 3, 7, 3), -4);
        due("in bounds", x.work(2, 1, 7, 0), 3 * 9999L * 9999 - 3 * 9999 + 1);
        // each part of 1 + w by 2 is a half: it goes up
        x.put(0, 1, 1);
        x.put(1, 2, 0);
        due("halves", x.work(0, 1, 7, 3), 1);
        holds("halves", x, 7, 1, 1);
        due("halves", x.work(0, 1, 7, 4), 1);
        holds("halves", x, 7, -1, -1);
        x.put(0, -1, -1);
        due("halves below 0", x.work(0, 1, 7, 3), 0);
        // 0 with 9999 + 9998 w (b = a - 1): the primary one alike it has parts 1, -9998, ..
        x.put(0, 0, 0);
        due("own", x.work(0, 6, 7, 5), 99970003L);
    }

    private static void change() {
        CubicSigns x = with(3, -2);
        due("turn", x.change(0, 0), 19);
        holds("turn", x, 0, 5, 2);
        int[][] times = {{5, 2}, {3, 5}, {-2, 3}, {-5, -2}, {-3, -5}, {2, -3}};
        for (int u = 0; u < 6; u++) {
            x.put(0, 5, 2);
            due("times unit", x.change(0, 2 + u), 19);
            holds("times unit " + u, x, 0, times[u][0], times[u][1]);
            due("own", x.change(0, 1), 19);
            holds("own of all six", x, 0, 2, -3);
        }
        x.put(0, 0, 0);
        due("own of 0", x.change(0, 1), 0);
        x.put(0, 3, 0);
        due("own of 3", x.change(0, 1), 9);
        holds("own of 3", x, 0, 0, 3);
        x.put(0, 9999, -1);
        due("turned beyond", x.change(0, 0), -4);
        due("unit beyond", x.change(0, 3), -4);
        holds("it stays", x, 0, 9999, -1);
        due("times 1", x.change(0, 2), 9999L * 9999 + 9999 + 1);
        // the primary one alike it is -10000 - 9999 w
        due("own beyond", x.change(0, 1), -4);
        holds("it stays", x, 0, 9999, -1);
        due("empty", x.change(1, 0), -2);
        due("change d", x.change(8, 0), NONE);
        due("change d", x.change(-1, 0), NONE);
        due("change how", x.change(0, 8), NONE);
        due("change how", x.change(0, -1), NONE);
    }

    private static void are() {
        CubicSigns x = with(3, -2, 5, 3, 0, 0, 0, 0, 1, 1, 5, 2, 25, 15);
        due("alike", x.are(0, 1, 0), 1);
        due("alike turned", x.are(0, 5, 0), 0);
        due("alike 0", x.are(2, 3, 0), 1);
        due("alike 0", x.are(0, 3, 0), 0);
        due("prime to", x.are(0, 1, 1), 0);
        due("prime to", x.are(0, 5, 1), 1);
        due("prime to 0", x.are(2, 3, 1), 0);
        due("prime to 0", x.are(2, 4, 1), 1);
        due("prime to 0", x.are(2, 0, 1), 0);
        due("divides", x.are(0, 6, 2), 1);
        due("divides", x.are(6, 0, 2), 0);
        due("divides 0", x.are(0, 2, 2), 1);
        due("0 divides", x.are(2, 0, 2), 0);
        due("0 divides 0", x.are(2, 3, 2), 1);
        due("are what", x.are(0, 1, 3), NONE);
        due("are what", x.are(0, 1, -1), NONE);
        due("are d", x.are(8, 1, 0), NONE);
        due("are e", x.are(0, -1, 0), NONE);
        due("empty", x.are(0, 7, 0), -2);
        due("empty", x.are(7, 0, 0), -2);
        due("NONE ahead of empty", x.are(7, 0, 3), NONE);
    }

    private static void written() {
        CubicSigns x = with(12, 11, 84, 0, 0, 0, 0, -1);
        due("how many", x.written(0, NONE, 0), 2);
        due("threes", x.written(0, NONE, 1), 0);
        due("unit", x.written(0, NONE, 2), 5);
        int[][] first = {{2, 3, 7}, {5, 3, 19}};
        // 84 is 2 2 3 7, and 3 is -w w times (1 - w) (1 - w)
        int[][] second = {{2, 0, 4}, {2, 0, 4}, {-1, -3, 7}, {2, 3, 7}};
        due("how many", x.written(1, NONE, 0), 4);
        due("threes", x.written(1, NONE, 1), 2);
        due("unit", x.written(1, NONE, 2), 1);
        for (int what = 0; what < 3; what++) {
            for (int k = 0; k < first.length; k++) {
                due("prime " + k, x.written(0, k, what), first[k][what]);
            }
            for (int k = 0; k < second.length; k++) {
                due("prime " + k, x.written(1, k, what), second[k][what]);
            }
            due("beyond", x.written(1, 4, what), NO);
            due("of 0", x.written(2, NONE, what), NO);
            due("of nothing", x.written(7, NONE, what), NO);
        }
        due("unit alone", x.written(3, NONE, 0), 0);
        due("unit alone", x.written(3, NONE, 2), 5);
        due("unit alone", x.written(3, 0, 0), NO);
        due("what", x.written(0, NONE, 3), NO);
        due("what", x.written(0, 0, -1), NO);
        due("k", x.written(0, -2, 0), NO);
        due("d", x.written(8, NONE, 0), NO);
        due("d", x.written(-1, NONE, 0), NO);
        x.put(0, 8192, 0);
        due("13 times 2", x.written(0, NONE, 0), 13);
        x.put(0, 6561, -6561);
        due("17 times 1 - w", x.written(0, NONE, 1), 17);
        due("17 times 1 - w", x.written(0, NONE, 0), 0);
    }

    private static void divisors() {
        CubicSigns x = with(84, 0, 1, 1, 14, 0, 0, 0, 1, -1);
        // norms 3 3, 4 4, 7, 7
        due("how many", x.divisors(0, 0), 3 * 3 * 2 * 2);
        due("norms", x.divisors(0, 1), 13L * 21 * 8 * 8);
        due("prime to", x.divisors(0, 2), 6L * 12 * 6 * 6);
        due("square", x.divisors(0, 3), 0);
        for (int what = 0; what < 4; what++) {
            due("unit", x.divisors(1, what), 1);
            due("0", x.divisors(3, what), Long.MIN_VALUE);
            due("empty", x.divisors(7, what), Long.MIN_VALUE);
        }
        due("odd", x.divisors(2, 3), -1);
        due("odd", x.divisors(4, 3), -1);
        x.put(0, 6, -6);
        due("a third power of 1 - w", x.divisors(0, 3), 0);
        x.put(0, 2, -2);
        due("even", x.divisors(0, 3), 1);
        due("what", x.divisors(0, 4), Long.MIN_VALUE);
        due("what", x.divisors(0, -1), Long.MIN_VALUE);
        due("d", x.divisors(8, 0), Long.MIN_VALUE);
        due("d", x.divisors(-1, 0), Long.MIN_VALUE);
    }

    private static void signBy() {
        // 14 is 2 times -1 - 3 w times 2 + 3 w
        CubicSigns x = with(0, 1, 14, 0, 0, 0, 3, 0, 1, 1);
        due("w by 2", x.signBy(0, 1, 0), 1);
        due("w by 7", x.signBy(0, 1, 1), 2);
        due("w by 7", x.signBy(0, 1, 2), 2);
        due("not so many", x.signBy(0, 1, 3), -4);
        due("divided", x.signBy(1, 1, 1), 3);
        due("0", x.signBy(2, 1, 0), 3);
        due("by 0", x.signBy(0, 2, 0), -3);
        due("by three", x.signBy(0, 3, 0), -3);
        due("by unit", x.signBy(0, 4, 0), -3);
        due("empty", x.signBy(7, 1, 0), -2);
        due("empty", x.signBy(0, 7, 0), -2);
        due("k", x.signBy(0, 1, -1), NONE);
        due("d", x.signBy(8, 1, 0), NONE);
        due("e", x.signBy(0, -1, 0), NONE);
    }

    private static void residue() {
        CubicSigns x = with(5, 7, 2, 3, 6, 0, 0, 0, 1, 1, 9999, 9998);
        // w is of 4's class by 2 + 3 w: 2 + 12 is 14
        due("x", x.residue(0, 1, 0), (5 + 7 * 4) % 7);
        due("y", x.residue(0, 1, 1), 0);
        due("x by whole", x.residue(0, 2, 0), 5);
        due("y by whole", x.residue(0, 2, 1), 1);
        due("by unit", x.residue(0, 4, 0), 0);
        due("by unit", x.residue(0, 4, 1), 0);
        due("great", x.residue(5, 5, 0), 0);
        due("by 0", x.residue(0, 3, 0), -3);
        due("empty", x.residue(0, 7, 0), -2);
        due("empty", x.residue(7, 3, 0), -2);
        due("what", x.residue(0, 1, 2), NONE);
        due("what", x.residue(0, 1, -1), NONE);
        due("d", x.residue(8, 1, 0), NONE);
        due("e", x.residue(0, 8, 0), NONE);
    }

    private static void power() {
        CubicSigns x = with(3, 0, 2, 3, 0, 0, 0, 1, 1, 1, 6, 0);
        due("3 to the 2 by 7", x.power(0, 2, 1, 0), 2);
        due("3 to the 10^9 by 7", x.power(0, 1000000000, 1, 0), 4);
        due("to the 0", x.power(2, 0, 1, 0), 1);
        due("0 to the 1", x.power(2, 1, 1, 0), 0);
        due("to the 0 by unit", x.power(0, 0, 4, 0), 0);
        due("w to the 2 by 6: x", x.power(3, 2, 5, 0), 5);
        due("w to the 2 by 6: y", x.power(3, 2, 5, 1), 5);
        due("by 0", x.power(0, 1, 2, 0), -3);
        due("empty", x.power(7, 1, 0, 0), -2);
        due("empty", x.power(0, 1, 7, 0), -2);
        due("k", x.power(0, -1, 1, 0), NONE);
        due("k", x.power(0, 1000000001, 1, 0), NONE);
        due("what", x.power(0, 1, 1, 2), NONE);
        due("d", x.power(8, 1, 1, 0), NONE);
        due("e", x.power(0, 1, 8, 0), NONE);
    }

    private static void inverse() {
        CubicSigns x = with(3, 0, 2, 3, 0, 0, 0, 1, 1, 1, 6, 0, 14, 0);
        due("3 by 7", x.inverse(0, 1, 0), 5);
        due("w by 6: x", x.inverse(3, 5, 0), 5);
        due("w by 6: y", x.inverse(3, 5, 1), 5);
        due("3 by 6", x.inverse(0, 5, 0), -4);
        due("14 by 7", x.inverse(6, 1, 0), -4);
        due("0 by unit", x.inverse(2, 4, 0), 0);
        due("0 by 7", x.inverse(2, 1, 0), -4);
        due("by 0", x.inverse(0, 2, 0), -3);
        due("0 by 0", x.inverse(2, 2, 0), -3);
        due("empty", x.inverse(7, 0, 0), -2);
        due("what", x.inverse(0, 1, 2), NONE);
        due("d", x.inverse(-1, 1, 0), NONE);
        due("e", x.inverse(0, 8, 0), NONE);
    }

    private static void classes() {
        CubicSigns x = with(2, 3, 6, 0, 0, 0, 1, 1, 44, 0, 45, 0, 9999, -9999);
        due("by 7", x.classes(0, 0), 7);
        due("by 7", x.classes(0, 1), 6);
        due("by 7", x.classes(0, 2), 2);
        due("by 6", x.classes(1, 0), 36);
        due("by 6", x.classes(1, 1), 18);
        due("by 6", x.classes(1, 2), 2);
        due("by unit", x.classes(3, 0), 1);
        due("by unit", x.classes(3, 1), 1);
        due("by unit", x.classes(3, 2), 1);
        due("by 44", x.classes(4, 1), 12 * 120);
        due("by 45", x.classes(5, 0), 2025);
        due("by 45", x.classes(5, 1), -3);
        due("by 45", x.classes(5, 2), -3);
        due("by great", x.classes(6, 0), 299940003);
        for (int what = 0; what < 3; what++) {
            due("by 0", x.classes(2, what), -3);
            due("empty", x.classes(7, what), -2);
            due("d", x.classes(8, what), NONE);
        }
        due("what", x.classes(0, 3), NONE);
        due("what", x.classes(7, -1), NONE);
    }

    private static void root() {
        CubicSigns x = with(1, 0, 2, 3, 0, 0, 2, 0, 3, 0, 45, 0);
        due("1 by 7", x.root(0, 1, NONE, 0), 3);
        due("of NONE any", x.root(0, 1, NONE, 77), 3);
        int[] roots = {1, 2, 4};
        for (int k = 0; k < 3; k++) {
            due("root", x.root(0, 1, k, 0), roots[k]);
            due("root", x.root(0, 1, k, 1), 0);
        }
        due("beyond", x.root(0, 1, 3, 0), -4);
        due("2 by 7", x.root(3, 1, NONE, 0), 0);
        due("2 by 7", x.root(3, 1, 0, 0), -4);
        // by 2: 1, w, w w have the third power 1
        int[][] byTwo = {{1, 0}, {0, 1}, {1, 1}};
        for (int k = 0; k < 3; k++) {
            due("by 2", x.root(0, 3, k, 0), byTwo[k][0]);
            due("by 2", x.root(0, 3, k, 1), byTwo[k][1]);
        }
        due("0 by 3", x.root(2, 4, NONE, 0), 3);
        due("by 0", x.root(0, 2, NONE, 0), -3);
        due("by 45", x.root(0, 5, NONE, 0), -3);
        due("empty", x.root(7, 2, NONE, 0), -2);
        due("k", x.root(0, 1, -2, 0), NONE);
        due("what", x.root(0, 1, 0, 2), NONE);
        due("what", x.root(0, 1, 0, -1), NONE);
        due("d", x.root(8, 1, 0, 0), NONE);
        due("e", x.root(0, -1, 0, 0), NONE);
    }

    private static void linear() {
        CubicSigns x = with(2, 0, 4, 0, 6, 0, 3, 0, 0, 0, 45, 0);
        // 2 z is of 4's class by 6: z is 2 and threes
        due("how many", x.linear(0, 1, 2, NONE, 9), 4);
        int[][] want = {{2, 0}, {5, 0}, {2, 3}, {5, 3}};
        for (int k = 0; k < 4; k++) {
            due("x", x.linear(0, 1, 2, k, 0), want[k][0]);
            due("y", x.linear(0, 1, 2, k, 1), want[k][1]);
        }
        due("beyond", x.linear(0, 1, 2, 4, 0), -4);
        due("none", x.linear(0, 3, 2, NONE, 0), 0);
        due("0 z is 0", x.linear(4, 4, 2, NONE, 0), 36);
        due("by 0", x.linear(0, 1, 4, NONE, 0), -3);
        due("by 45", x.linear(0, 1, 5, NONE, 0), -3);
        due("empty", x.linear(7, 1, 2, NONE, 0), -2);
        due("empty", x.linear(0, 7, 2, NONE, 0), -2);
        due("empty", x.linear(0, 1, 7, NONE, 0), -2);
        due("k", x.linear(0, 1, 2, -2, 0), NONE);
        due("what", x.linear(0, 1, 2, 0, 2), NONE);
        due("d", x.linear(8, 1, 2, 0, 0), NONE);
        due("e", x.linear(0, 8, 2, 0, 0), NONE);
        due("f", x.linear(0, 7, 8, 0, 0), NONE);
    }

    private static void spread() {
        CubicSigns x = with(2, 3, 0, 0, 1, 1, 45, 0, 3, 0);
        due("by 7", x.spread(0, 0), 4);
        due("by 7", x.spread(0, 1), 1);
        due("by 7", x.spread(0, 2), 0);
        due("by 7", x.spread(0, 3), 2);
        due("by 3", x.spread(4, 3), 3);
        due("by 3", x.spread(4, 0), 6);
        due("by unit", x.spread(2, 1), 1);
        due("by unit", x.spread(2, 2000), 0);
        due("by 0", x.spread(1, 0), -3);
        due("by 45", x.spread(3, 0), -3);
        due("empty", x.spread(7, 0), -2);
        due("many", x.spread(0, -1), NONE);
        due("many", x.spread(7, 2001), NONE);
        due("d", x.spread(8, 0), NONE);
    }

    private static void order() {
        CubicSigns x = with(3, 0, 2, 3, 0, 0, 1, 1, 45, 0, 0, 1, 2, 0);
        due("3 by 7", x.order(0, 1), 6);
        due("2 by 7", x.order(6, 1), 3);
        due("by unit", x.order(0, 3), 1);
        due("0 by unit", x.order(2, 3), 1);
        due("w by 2", x.order(5, 6), 3);
        due("1 + w by 3", x.order(3, 0), 6);
        due("by 0", x.order(0, 2), -3);
        due("by 45", x.order(0, 4), -3);
        due("not prime to", x.order(2, 1), -4);
        due("not prime to", x.order(1, 1), -4);
        due("empty", x.order(7, 2), -2);
        due("empty", x.order(0, 7), -2);
        due("d", x.order(8, 0), NONE);
        due("e", x.order(0, 8), NONE);
    }

    private static void greatest() {
        CubicSigns x = with(2, 3, 0, 0, 1, 1, 23, 0, 3, 0, 2, 0, 22, 0);
        due("by 7", x.greatest(0, 0), 6);
        due("by 7", x.greatest(0, 1), 2);
        due("by unit", x.greatest(2, 0), 1);
        due("by unit", x.greatest(2, 1), 1);
        due("by 3", x.greatest(4, 0), 6);
        due("by 3", x.greatest(4, 1), 2);
        due("by 2", x.greatest(5, 0), 3);
        due("by 2", x.greatest(5, 1), 2);
        // by 22 there are pairs of a class by 2 (3 of them) and one by 11 (120): 8 times 4 times 4
        due("by 22", x.greatest(6, 0), 120);
        due("by 22", x.greatest(6, 1), 128);
        due("by 23", x.greatest(3, 0), -3);
        due("by 0", x.greatest(1, 0), -3);
        due("empty", x.greatest(7, 0), -2);
        due("what", x.greatest(0, 2), NONE);
        due("what", x.greatest(7, -1), NONE);
        due("d", x.greatest(8, 0), NONE);
    }

    private static void least() {
        CubicSigns x = with(5, 7, 2, 3, 1, 0, 2, 0, 0, 0, 1, 1);
        due("by 7 a", x.least(0, 1, 0), 1);
        due("by 7 b", x.least(0, 1, 1), 1);
        // 1 and -1 are of one class by 2
        due("by 2 a", x.least(2, 3, 0), -1);
        due("by 2 b", x.least(2, 3, 1), 0);
        due("1 + w by 2 a", x.least(5, 3, 0), -1);
        due("1 + w by 2 b", x.least(5, 3, 1), -1);
        due("0", x.least(4, 3, 0), 0);
        due("by 0", x.least(0, 4, 0), NO);
        due("empty", x.least(7, 4, 0), NO);
        due("empty", x.least(0, 7, 0), NO);
        due("what", x.least(7, 1, 2), NONE);
        due("what", x.least(0, 1, -1), NONE);
        due("d", x.least(8, 1, 0), NONE);
        due("e", x.least(0, 8, 0), NONE);
    }

    private static void both() {
        CubicSigns x = with(1, 0, 2, 0, 2, 0, 5, 0, 0, 0, 6, 0, 9999, 0);
        // 1 by 2 and 2 by 5: 7 by 10
        due("x", x.both(0, 1, 2, 3, 0), 7);
        due("y", x.both(0, 1, 2, 3, 1), 0);
        due("not prime to", x.both(0, 1, 2, 5, 0), -3);
        due("by 0", x.both(0, 4, 2, 3, 0), -3);
        due("by 0", x.both(0, 1, 2, 4, 0), -3);
        due("by 0 ahead of beyond", x.both(0, 1, 2, 4, 0), -3);
        due("beyond", x.both(0, 1, 2, 6, 0), -4);
        due("empty", x.both(7, 1, 2, 3, 0), -2);
        due("empty", x.both(0, 7, 2, 3, 0), -2);
        due("empty", x.both(0, 1, 7, 3, 0), -2);
        due("empty", x.both(0, 1, 2, 7, 0), -2);
        due("what", x.both(0, 1, 2, 3, 2), NONE);
        due("what", x.both(7, 1, 2, 3, -1), NONE);
        due("d", x.both(8, 1, 2, 3, 0), NONE);
        due("e", x.both(0, 8, 2, 3, 0), NONE);
        due("f", x.both(0, 7, 8, 3, 0), NONE);
        due("g", x.both(0, 7, 2, -1, 0), NONE);
    }

    private static void parting() {
        CubicSigns x = with(3, -2, 2, 3, 0, 0);
        // 3 - 2 w: q -1 - 2 w, rest -1 - w; 2 + 3 w by that: the whole
        due("partings", x.partings(0, 1), 2);
        due("q 0 a", x.parting(0, 1, 0, 0), -1);
        due("q 0 b", x.parting(0, 1, 0, 1), -2);
        // through -1 - w is times w: 2 w + 3 w w
        due("q 1 a", x.parting(0, 1, 1, 0), -3);
        due("q 1 b", x.parting(0, 1, 1, 1), -1);
        due("beyond", x.parting(0, 1, 2, 0), NO);
        long[] last = {-1, -1, 1, 0, 1, 2};
        for (int what = 0; what < 6; what++) {
            due("last " + what, x.parting(0, 1, NONE, what), last[what]);
        }
        due("m 0", x.partings(0, 2), 0);
        due("m 0", x.parting(0, 2, 0, 0), NO);
        long[] ofNought = {3, -2, 1, 0, 0, 0};
        for (int what = 0; what < 6; what++) {
            due("m 0", x.parting(0, 2, NONE, what), ofNought[what]);
        }
        due("n 0", x.partings(2, 1), 1);
        due("n 0", x.parting(2, 1, NONE, 1), 3);
        due("n 0", x.parting(2, 1, NONE, 4), 1);
        due("both 0", x.parting(2, 2, NONE, 0), 0);
        due("both 0", x.partings(2, 2), 0);
        due("what", x.parting(0, 1, 0, 2), NO);
        due("what", x.parting(0, 1, NONE, 6), NO);
        due("what", x.parting(0, 1, NONE, -1), NO);
        due("k", x.parting(0, 1, -2, 0), NO);
        due("d", x.parting(8, 1, 0, 0), NO);
        due("e", x.parting(0, 8, 0, 0), NO);
        due("empty", x.parting(7, 1, NONE, 0), NO);
        due("empty", x.partings(7, 1), -2);
        due("empty", x.partings(0, 7), -2);
        due("d", x.partings(8, 1), NONE);
        due("e", x.partings(7, -1), NONE);
    }

    private static void steps() {
        CubicSigns x = with(0, 0, 3, 2, 3, -2, -4, 0, 9999, -9999, -9999, 9999);
        due("same", x.steps(0, 0), 0);
        due("3 + 2 w", x.steps(0, 1), 3);
        due("3 - 2 w", x.steps(0, 2), 5);
        due("4", x.steps(0, 3), 4);
        due("far", x.steps(4, 5), 39996);
        due("back", x.steps(2, 0), 5);
        due("empty", x.steps(0, 7), -2);
        due("empty", x.steps(7, 0), -2);
        due("d", x.steps(8, 0), NONE);
        due("e", x.steps(7, -1), NONE);
    }

    private static void direct() {
        CubicSigns x = with(3, 0, 2, 3, 0, 1, 2, 0, 6, 0, 1, -1, 0, 0);
        // 3 to the 2 by 7
        due("3 by 7", x.direct(0, 1, 0), 2);
        due("w by 2: x", x.direct(2, 3, 0), 0);
        due("w by 2: y", x.direct(2, 3, 1), 1);
        due("0", x.direct(6, 1, 0), 0);
        due("no prime", x.direct(0, 4, 0), -3);
        due("of three", x.direct(3, 5, 0), -3);
        due("by 0", x.direct(3, 6, 0), -3);
        due("by unit", x.direct(3, 2, 0), -3);
        due("empty", x.direct(7, 6, 0), -2);
        due("empty", x.direct(0, 7, 0), -2);
        due("what", x.direct(0, 1, 2), NONE);
        due("d", x.direct(8, 1, 0), NONE);
        due("e", x.direct(7, 8, 0), NONE);
    }

    private static void sign() {
        CubicSigns x = with(0, 1, 14, 0, 0, 0, 3, 0, 1, 1, 2, 3, 4, 0);
        due("w by 14", x.sign(0, 1), (1 + 2 + 2) % 3);
        due("w by 7", x.sign(0, 5), 2);
        due("w by 4", x.sign(0, 6), 2);
        due("divided", x.sign(5, 1), 3);
        due("0", x.sign(2, 1), 3);
        due("1 + w is -w w", x.sign(4, 5), 1);
        due("by 0", x.sign(0, 2), -3);
        due("by three", x.sign(0, 3), -3);
        due("by unit", x.sign(0, 4), -3);
        due("empty", x.sign(7, 2), -2);
        due("empty", x.sign(0, 7), -2);
        due("d", x.sign(8, 0), NONE);
        due("e", x.sign(7, -1), NONE);
    }

    private static void turned() {
        CubicSigns x = with(2, 3, 5, 0, -1, 0, 5, 3, 3, -2, 2, 0, 10, 0);
        due("2 + 3 w, 5", x.turned(0, 1), 4 * x.sign(0, 1));
        due("5 + 3 w, 2 + 3 w", x.turned(3, 0), 4 * x.sign(3, 0));
        // 2 by 2 + 3 w: 4, which is w's class
        due("2, 2 + 3 w", x.turned(5, 0), 4);
        due("unit", x.turned(2, 0), -3);
        due("unit", x.turned(0, 2), -3);
        due("not primary", x.turned(4, 0), -3);
        due("not primary", x.turned(0, 4), -3);
        due("not primary", x.turned(0, 6), -3);
        x.put(6, 20, 0);
        due("not prime to", x.turned(5, 6), -3);
        due("not prime to", x.turned(0, 0), -3);
        due("empty", x.turned(0, 7), -2);
        due("empty", x.turned(7, 2), -2);
        due("d", x.turned(8, 0), NONE);
        due("e", x.turned(7, 8), NONE);
    }

    private static void supplement() {
        CubicSigns x = with(2, 3, 0, 0, 1, 1, 3, 0, 14, 0);
        // by 2 + 3 w: w is 4, 1 - w is -3 (to the 2: 2, w w), 3 to the 2 is 2, 2 to the 2 is 4
        int[] want = {2, 2, 2, 1};
        for (int which = 0; which < 4; which++) {
            due("supplement " + which, x.supplement(0, which), want[which]);
            due("by 0", x.supplement(1, which), -3);
            due("by unit", x.supplement(2, which), -3);
            due("by three", x.supplement(3, which), -3);
            due("empty", x.supplement(7, which), -2);
            due("d", x.supplement(8, which), NONE);
        }
        due("2 by 14", x.supplement(4, 3), 3);
        due("which", x.supplement(0, 4), NONE);
        due("which", x.supplement(7, -1), NONE);
    }

    private static void prime() {
        CubicSigns x = new CubicSigns();
        int[][] want = {
            {7, 2, 3, 1, 1, 0, 0, 6, 2},
            {31, 5, 6, 4, 2, 1, 0, 2, 3},
            {61, 5, 9, 1, 3, 0, 1, 3, 2},
            {997, 23, 36, 10, 12, 1, 1, 2, 7},
            {13, -1, 3, -5, 1, 0, 0, 5, 2},
        };
        for (int[] row : want) {
            for (int what = 0; what < 8; what++) {
                due("prime(" + row[0] + ", " + what + ")", x.prime(row[0], what), row[what + 1]);
            }
        }
        int[] wrong = {5, 3, 2, 0, -7, 9, 49, 91, 11, 991 + 8, 1009, Integer.MIN_VALUE, Integer.MAX_VALUE};
        for (int p : wrong) {
            due("prime(" + p + ", 0)", x.prime(p, 0), NO);
            due("sum(" + p + ", 0)", x.sum(p, 0), NO);
            due("split(" + p + ", 0)", x.split(p, 0), NONE);
        }
        due("what", x.prime(7, 8), NO);
        due("what", x.prime(7, -1), NO);
    }

    private static void sum() {
        CubicSigns x = new CubicSigns();
        due("a", x.sum(7, 0), 2);
        due("b", x.sum(7, 1), 3);
        due("norm", x.sum(997, 2), 997);
        due("points of 7", x.sum(7, 3), 6);
        due("points of 13", x.sum(13, 3), 6);
        // p - 2 and L
        due("points of 997", x.sum(997, 3), 997 - 2 + 10);
        due("what", x.sum(7, 4), NO);
        due("what", x.sum(7, -1), NO);
    }

    private static void split() {
        CubicSigns x = with(9, 9);
        due("split", x.split(31, 1), 6);
        holds("split", x, 1, 5, 6);
        due("split over one", x.split(7, 0), 3);
        holds("split over one", x, 0, 2, 3);
        due("d", x.split(7, 8), NONE);
        due("d", x.split(7, -1), NONE);
        due("p", x.split(10, 0), NONE);
        holds("it stays", x, 0, 2, 3);
    }

    private static void thirds() {
        CubicSigns x = new CubicSigns();
        due("how many", x.thirds(NONE), 80);
        int[] first = {7, 13, 19, 31, 37, 43, 61, 67, 73, 79, 97};
        for (int k = 0; k < first.length; k++) {
            due("thirds(" + k + ")", x.thirds(k), first[k]);
        }
        due("last", x.thirds(79), 997);
        due("beyond", x.thirds(80), -2);
        due("beyond", x.thirds(Integer.MAX_VALUE), -2);
        due("below", x.thirds(-2), -3);
    }

    private static void primeAt() {
        CubicSigns x = new CubicSigns();
        int[][] first = {{2, 0, 4}, {-1, -3, 7}, {2, 3, 7}, {-4, -3, 13}, {-1, 3, 13}, {2, -3, 19}, {5, 3, 19}, {5, 0, 25}};
        for (int k = 0; k < first.length; k++) {
            for (int what = 0; what < 3; what++) {
                due("primeAt(" + k + ", " + what + ")", x.primeAt(k, what), first[k][what]);
            }
        }
        int many = x.primeAt(NONE, 0);
        due("how many", many, 303);
        due("of NONE any", x.primeAt(NONE, 99), many);
        due("last", x.primeAt(many - 1, 2), 1999);
        due("beyond", x.primeAt(many, 0), NO);
        due("below", x.primeAt(-2, 0), NO);
        due("what", x.primeAt(0, 3), NO);
        due("what", x.primeAt(0, -1), NO);
    }

    private static void crowd() {
        CubicSigns x = with(1, 0, 0, 0, 2, 3, 0, 1);
        due("1", x.crowd(0, 100, 0), 100);
        due("1", x.crowd(0, 100, 1), 0);
        due("0", x.crowd(1, 100, 3), 100);
        due("one divides", x.crowd(2, 100, 3), 1);
        due("w by 2, 7, 7", x.crowd(3, 3, 1), 1);
        due("w by 2, 7, 7", x.crowd(3, 3, 2), 2);
        due("w by 2", x.crowd(3, 1, 2), 0);
        due("empty", x.crowd(7, 1, 0), -2);
        due("many", x.crowd(0, 0, 0), NONE);
        due("many", x.crowd(0, 101, 0), NONE);
        due("what", x.crowd(0, 1, 4), NONE);
        due("what", x.crowd(7, 1, -1), NONE);
        due("d", x.crowd(8, 1, 0), NONE);
    }

    private static void letter() {
        String[] texts = {"0", "w", "-w", "1", "-1", "1+w", "1-w", "-9999-9999w", "20w", "-305+10w", "1000", "-2w"};
        int[][] numbers = {{0, 0}, {0, 1}, {0, -1}, {1, 0}, {-1, 0}, {1, 1}, {1, -1}, {-9999, -9999}, {0, 20}, {-305, 10}, {1000, 0}, {0, -2}};
        CubicSigns x = new CubicSigns();
        for (int i = 0; i < texts.length; i++) {
            x.put(0, numbers[i][0], numbers[i][1]);
            due("letters of " + texts[i], x.letter(0, NONE), texts[i].length());
            for (int k = 0; k < texts[i].length(); k++) {
                due("letter " + k + " of " + texts[i], x.letter(0, k), texts[i].charAt(k));
            }
            due("beyond", x.letter(0, texts[i].length()), -3);
        }
        due("k", x.letter(0, -2), NONE);
        due("empty", x.letter(1, 99), -2);
        due("d", x.letter(8, 0), NONE);
        due("d", x.letter(-1, 0), NONE);
    }

    private static void length() {
        CubicSigns x = with(0, 0, 1, 0, 2, 0, 9999, -9999, 3, 0, 30, 0);
        due("0", x.length(0), 0);
        due("1", x.length(1), 1000);
        due("2", x.length(2), 2000);
        due("3", x.length(4), 3000);
        // six steps do not lead all the way: 225, 114.. and so on
        float n = 900f;
        float y = 450f;
        for (int i = 0; i < 6; i++) {
            y = (y + n / y) / 2f;
        }
        due("30", x.length(5), (int) (y * 1000f));
        due("far, beyond the ints", x.length(3), Integer.MAX_VALUE);
        due("empty", x.length(7), -2);
        due("d", x.length(8), NONE);
        due("d", x.length(-1), NONE);
    }

    private static void middle() {
        CubicSigns x = with(1, -5, 2, -5);
        x.put(7, 2, -4);
        due("a", x.middle(0), (int) (5f / 3f * 100f));
        due("b", x.middle(1), (int) (-14f / 3f * 100f));
        due("what", x.middle(2), NO);
        due("what", x.middle(-1), NO);
        CubicSigns none = new CubicSigns();
        due("all empty", none.middle(0), NO);
        none.put(3, 0, 0);
        due("one", none.middle(0), 0);
    }

    private static void nearest() {
        CubicSigns x = with(0, 0, 3, 0, 0, 3, 1, -1);
        due("which", x.nearest(0, 0), 3);
        due("norm", x.nearest(0, 1), 3);
        due("which", x.nearest(2, 0), 0);
        due("norm", x.nearest(2, 1), 9);
        x.put(7, 0, 0);
        due("same", x.nearest(0, 0), 7);
        due("same", x.nearest(7, 0), 0);
        due("same", x.nearest(7, 1), 0);
        due("of like ones the lowest", x.nearest(3, 0), 0);
        due("empty", x.nearest(5, 0), -2);
        due("what", x.nearest(0, 2), NONE);
        due("what", x.nearest(5, -1), NONE);
        due("d", x.nearest(8, 0), NONE);
        due("no other", with(1, 1).nearest(0, 0), -3);
        due("far", with(9999, -9999, -9999, 9999).nearest(0, 1), 3L * 19998 * 19998);
    }

    private static void ring() {
        CubicSigns x = new CubicSigns();
        int[][] want = {{0, 1, 0, 0}, {1, 6, 2, 1}, {2, 0, 0, 0}, {3, 6, 2, 0}, {4, 6, 2, 1}, {7, 12, 4, 2}, {49, 18, 6, 3}, {637, 36, 12, 6}, {1000000, 6, 2, 1}};
        for (int[] row : want) {
            for (int what = 0; what < 3; what++) {
                due("ring(" + row[0] + ", " + what + ")", x.ring(row[0], what), row[what + 1]);
            }
        }
        due("n", x.ring(-1, 0), NONE);
        due("n", x.ring(1000001, 0), NONE);
        due("n, of which there are some", x.ring(1000003, 0), NONE);
        due("what", x.ring(1, 3), NONE);
        due("what", x.ring(1, -1), NONE);
    }

    private static void disk() {
        CubicSigns x = new CubicSigns();
        int[][] want = {{0, 1, 1}, {1, 7, 3}, {2, 7, 3}, {3, 13, 4}, {4, 19, 5}};
        for (int[] row : want) {
            due("disk(" + row[0] + ", 0)", x.disk(row[0], 0), row[1]);
            due("disk(" + row[0] + ", 1)", x.disk(row[0], 1), row[2]);
        }
        due("disk of all, one b", x.disk(1000000, 1), 2001);
        due("n", x.disk(-1, 0), NONE);
        due("n", x.disk(1000001, 0), NONE);
        due("what", x.disk(1, 2), NONE);
        due("what", x.disk(1, -1), NONE);
    }

    private static void ringAt() {
        CubicSigns x = new CubicSigns();
        int[][] want = {{-1, -1}, {0, -1}, {-1, 0}, {1, 0}, {0, 1}, {1, 1}};
        for (int k = 0; k < 6; k++) {
            due("a", x.ringAt(1, k, 0), want[k][0]);
            due("b", x.ringAt(1, k, 1), want[k][1]);
        }
        due("0", x.ringAt(0, 0, 0), 0);
        due("0", x.ringAt(0, 1, 0), NO);
        due("beyond", x.ringAt(1, 6, 0), NO);
        due("below", x.ringAt(1, -1, 0), NO);
        due("none", x.ringAt(2, 0, 0), NO);
        due("n", x.ringAt(-1, 0, 0), NO);
        due("n", x.ringAt(1000001, 0, 0), NO);
        due("n, of which there are some", x.ringAt(1000003, 0, 0), NO);
        due("what", x.ringAt(1, 0, 2), NO);
        due("what", x.ringAt(1, 0, -1), NO);
    }

    private static void drawn() {
        CubicSigns x = new CubicSigns();
        // X: 13849, then 25173 * 13849 + 13849 modulo 65536
        int second = (int) ((25173L * 13849 + 13849) % 65536);
        due("drawn", x.drawn(0, 0, 5), second);
        holds("drawn", x, 0, 13849 / 4 % 11 - 5, second / 4 % 11 - 5);
        due("the lowest 16 bits", x.drawn(1, 65536, 5), second);
        due("a seed below 0", x.drawn(1, -65536, 1000), second);
        holds("far", x, 1, 13849 / 4 % 2001 - 1000, second / 4 % 2001 - 1000);
        due("far", x.drawn(2, 0, 0), NONE);
        due("far", x.drawn(2, 0, 1001), NONE);
        due("d", x.drawn(8, 0, 1), NONE);
        due("d", x.drawn(-1, 0, 1), NONE);
        due("nothing came", x.count(0), 3);
    }

    private static void count() {
        CubicSigns x = with(1, 1, 2, 2);
        x.put(7, 0, 0);
        x.feed(1, 2, 3, 4, 5);
        x.keep();
        due("drawers", x.count(0), 131);
        due("bytes", x.count(1), 20);
        due("states", x.count(2), 1);
        due("what", x.count(3), NONE);
        due("what", x.count(-1), NONE);
    }

    private static void keepAndUndo() {
        CubicSigns x = with(1, 2);
        due("undo none", x.undo(), NONE);
        for (int i = 1; i <= 12; i++) {
            due("keep", x.keep(), i);
            x.put(0, i, -i);
            x.put(i % 8, i, i);
        }
        due("keep 13", x.keep(), NONE);
        due("kept", x.count(2), 12);
        x.feed(1, 2, 3, 4, 5);
        for (int i = 11; i >= 1; i--) {
            due("undo", x.undo(), i);
            holds("undo", x, 0, i == 8 ? 8 : i, i == 8 ? 8 : -i);
        }
        due("undo the first", x.undo(), 0);
        holds("undo the first", x, 0, 1, 2);
        due("drawers", x.count(0), 1);
        due("the tape is not kept", x.count(1), 20);
        due("undo none", x.undo(), NONE);
    }
}
