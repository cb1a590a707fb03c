/** For each promise: ordinary calls, the edges that the document names, wrong calls; each answer worked out by hand. */
public final class PromisesTest {
    private static final int BAD = -1, NO = -2, FULL = -3, NONE = -4;
    /** Six streets of each kind, six works, with leading noughts. */
    private static final String LARGE = "s0,50,0;s1,50,0;s2,50,0;s3,50,0;s0,07,0;s1,99,9;w1;w02;w3;w4;w39;w40;";
    /** Two that use nothing up: the chair goes to and fro, ten a quarter. */
    private static final String TWINS = "s0,5,0;s0,5,0;w10;";

    public static void main(String[] args) {
        constants();
        promise1();
        promise2and3();
        promise4();
        promise5();
        promise6();
        promise7();
        promise8();
        promise9();
        promise10();
        promise11();
        promise12();
        promise13();
        promise14();
        promise15();
        promise16();
        promise17();
        promise18();
        promise19and20();
        promise21();
        promise22();
        promise23();
        promise24();
        promise25and26();
        promise27();
        Check.finish("PromisesTest");
    }

    private static void due(String call, long got, long want) {
        Check.due(call, got, want);
    }

    private static void write(MayorsChair x, String text) {
        for (int i = 0; i < text.length(); i++) {
            x.write(text.charAt(i));
        }
    }

    private static MayorsChair laid(String text) {
        MayorsChair x = new MayorsChair();
        write(x, text);
        x.lay();
        return x;
    }

    private static void constants() {
        due("BAD", MayorsChair.BAD, -1);
        due("NO", MayorsChair.NO, -2);
        due("FULL", MayorsChair.FULL, -3);
        due("NONE", MayorsChair.NONE, -4);
    }

    private static void promise1() {
        MayorsChair x = new MayorsChair();
        int[] counts = {5, 3, 0, NONE, 52, 0, 0, 0, 0, 0, 0};
        int[][] streets = {{0, 20, 2, 20, 0, 0}, {1, 8, 1, 13, 0, 0}, {2, 14, 3, 9, 0, 0}, {3, 10, 1, 5, 0, 0},
            {0, 0, 0, 0, 0, 0}};
        for (int what = 0; what < counts.length; what++) {
            due("1: count(" + what + ")", x.count(what), counts[what]);
        }
        for (int s = 0; s < streets.length; s++) {
            for (int what = 0; what < 6; what++) {
                due("1: street(" + s + ", " + what + ")", x.street(s, what), streets[s][what]);
            }
        }
        due("1: work(0)", x.work(0), 9);
        due("1: work(1)", x.work(1), 4);
        due("1: work(2)", x.work(2), 15);
        due("1: fault() of the empty text", x.fault(), NONE);
        due("1: wipe()", x.wipe(), 0);
    }

    private static void promise2and3() {
        MayorsChair x = new MayorsChair();
        due("2: write(32)", x.write(32), 1);
        due("2: write(126)", x.write(126), 2);
        for (int letter : new int[] {31, 127, 0, -1, 256 + 65, Integer.MIN_VALUE, Integer.MAX_VALUE}) {
            due("2: write(" + letter + ")", x.write(letter), BAD);
        }
        due("2: nothing changes by BAD", x.count(10), 2);
        for (int i = 3; i <= 200; i++) {
            due("2: write, " + i, x.write('s'), i);
        }
        due("2: write(115), full", x.write('s'), FULL);
        due("2: write(31), full", x.write(31), BAD);
        due("2: nothing changes by FULL", x.count(10), 200);
        due("3: wipe()", x.wipe(), 200);
        due("3: wipe() again", x.wipe(), 0);
        due("3: write behind wipe", x.write('w'), 1);
        due("3: what stood there is gone", x.fault(), 0);
        due("3: wipe()", x.wipe(), 1);
    }

    private static void fault(String text, int want) {
        MayorsChair x = new MayorsChair();
        write(x, text);
        due("4: fault() of " + text, x.fault(), want);
    }

    private static void promise4() {
        for (String sound : new String[] {"", "s0,0,0;", "s3,99,9;", "w1;", "w40;", "w01;s00,00,00;", "w5;s1,2,3;w6;", LARGE}) {
            fault(sound, NONE);
        }
        for (String first : new String[] {"s4,0,0;", "s0,100,0;", "s0,0,10;", "w0;", "w00;", "w41;", "w001;", "s0,000,0;",
                "s0,0;", "s0,0,0,0;", "s0,0,0", "s0,0,", "s0,0", "s", "w", "w;", "w4", "w4,4;", "s,0,0;", "s0,,0;", "s0;0;0;",
                "x1;", ";", " ", " w1;", "w 1;", "w1 ;", "S0,0,0;", "W1;", "w-1;", "s0,0,0:", "1;", "w1,", "w:;", "w/;"}) {
            fault(first, 0);
            fault("w07;s0,9,9;" + first, 11);
            fault(first + "w4;", 0);
        }
        fault("w5;;", 3);
        fault("w5; w5;", 3);
        fault("s0,1,1;s0,1,1;s0,1,1;s0,1,1;s0,1,1;s0,1,1;w1;", NONE);
        fault("s0,1,1;s0,1,1;s0,1,1;s0,1,1;s0,1,1;s0,1,1;s0,1,1;", 42);
        fault("w1;w1;w1;w1;w1;w1;w1;", 18);
        fault("w1;w1;w1;w1;w1;w1;s0,1,1;", NONE);
        MayorsChair x = new MayorsChair();
        write(x, "q");
        x.fault();
        due("4: fault() lays nothing", x.count(4), 52);
    }

    private static void promise5() {
        MayorsChair x = new MayorsChair();
        due("5: lay() of the empty text", x.lay(), NO);
        write(x, "s0,1,1;w1;");
        due("5: lay() of one street", x.lay(), NO);
        x.wipe();
        write(x, "s0,1,1;s0,1,1;");
        due("5: lay() without a work", x.lay(), NO);
        write(x, "w0;");
        due("5: lay() with a fault", x.lay(), NO);
        due("5: nothing changes by NO", x.count(0) * 100 + x.count(1) * 10 + x.street(4, 1), 530);
        x.wipe();
        x.pass(3);
        x.mud(3, 7);
        x.seen(1, 0);
        x.keep();
        x.behind(9, 0, 0);
        write(x, LARGE);
        due("5: lay()", x.lay(), 6);
        int[] counts = {6, 6, 0, NONE, 306, 0, 0, 0, 0, 0, LARGE.length()};
        for (int what = 0; what < counts.length; what++) {
            due("5: count(" + what + ")", x.count(what), counts[what]);
        }
        for (int s = 0; s < 6; s++) {
            due("5: no mud", x.street(s, 4), 0);
            due("5: the chair stood nowhere", x.street(s, 5), 0);
        }
        due("5: kind", x.street(5, 0), 1);
        due("5: wealth", x.street(4, 1), 7);
        due("5: use", x.street(5, 2), 9);
        due("5: work", x.work(1), 2);
        x.pass(2);
        x.wipe();
        write(x, "s0,1,1;s0,1,1;w7;");
        due("5: lay() of fewer", x.lay(), 2);
        due("5: the third is there no more", x.street(2, 1), BAD);
        due("5: the second work is there no more", x.work(1), BAD);
        due("5: the same text again", x.lay(), 2);
    }

    private static void promise6() {
        MayorsChair x = laid("s0,4,0;s1,4,0;s2,4,0;s3,5,0;s2,7,0;s3,1,9;w1;");
        int[] looks = {4, 9, 0, 2, 2, 0};
        for (int s = 0; s < 6; s++) {
            due("6: looks of " + s, x.street(s, 3), looks[s]);
        }
        x.mud(1, 6);
        x.mud(0, 5);
        x.mud(3, 1);
        x.mud(4, 40);
        due("6: looks with mud", x.street(1, 3), 3);
        due("6: looks with mud, 0 at least", x.street(0, 3), 0);
        due("6: looks with mud, half", x.street(3, 3), 1);
        due("6: looks with mud, less 5", x.street(4, 3), 0);
        due("6: mud", x.street(4, 4), 40);
        due("6: wealth stays", x.street(1, 1), 4);
        x.pass(3);
        due("6: how often", x.street(0, 5) + x.street(2, 5) + x.street(4, 5) + x.street(5, 5), 3);
        for (int[] wrong : new int[][] {{-1, 0}, {6, 0}, {0, -1}, {0, 6}, {Integer.MAX_VALUE, 0}, {0, Integer.MIN_VALUE}}) {
            due("6: street(" + wrong[0] + ", " + wrong[1] + ")", x.street(wrong[0], wrong[1]), BAD);
        }
    }

    private static void promise7() {
        MayorsChair x = laid(LARGE);
        due("7: work(0)", x.work(0), 1);
        due("7: work(5)", x.work(5), 40);
        due("7: work(6)", x.work(6), BAD);
        due("7: work(-1)", x.work(-1), BAD);
        x.change(0, 5);
        due("7: work(0), put otherwise", x.work(0), 40);
        due("7: work(5), put otherwise", x.work(5), 1);
        due("7: work(3) of three", new MayorsChair().work(3), BAD);
    }

    private static void promise8() {
        MayorsChair x = new MayorsChair();
        due("8: pass(0)", x.pass(0), BAD);
        due("8: pass(21)", x.pass(21), BAD);
        due("8: pass(-1)", x.pass(-1), BAD);
        due("8: pass(1), firewood", x.pass(1), 4);
        due("8: the quarter used up", x.street(0, 1) * 10000 + x.street(1, 1) * 100 + x.street(2, 1), 180711);
        due("8: no work at firewood", x.street(4, 1), 0);
        due("8: it stands there all the same", x.street(4, 5), 1);
        due("8: the next work's turn", x.count(6), 1);
        due("8: firewood", x.count(5), 1);
        x = laid("s0,9,9;s0,9,8;w6;w40;");
        x.mud(0, 1);
        x.mud(1, 2);
        due("8: pass(1): 0 at least, of several the lowest", x.pass(1), 0);
        due("8: none left, no work", x.street(0, 1), 0);
        due("8: no mud at firewood", x.street(0, 4), 0);
        due("8: the other one's mud stays", x.street(1, 4), 2);
        x = laid("s3,9,1;s0,9,1;w7;w40;");
        due("8: pass(1) to the spending", x.pass(1), 0);
        due("8: half the worth, cut", x.street(0, 1), 11);
        due("8: pass(1): 10 by half, and 7", x.pass(1), 0);
        due("8: the second work", x.street(0, 1), 30);
        due("8: the first work again", x.pass(1) * 1000 + x.street(1, 1) * 10 + x.count(6), 1131);
        x = laid("s3,4,0;s0,2,0;w1;");
        due("8: of several that look alike the lowest", x.pass(1), 0);
        due("8: half of one is nothing", x.street(0, 1), 4);
        x = laid("s0,99,0;s0,99,0;w40;");
        for (int i = 0; i < 3; i++) {
            x.pass(20);
        }
        due("8: 999 at most", x.street(0, 1) * 1000 + x.street(1, 1), 999999);
        x = laid(TWINS);
        for (int i = 0; i < 49; i++) {
            x.pass(20);
        }
        due("8: pass(20) beyond", x.pass(20), NO);
        due("8: nothing changes by NO", x.count(2) * 10 + x.count(8), 9808);
        due("8: pass(19)", x.pass(19), 0);
        due("8: the last quarter", x.count(2), 999);
        due("8: pass(1) beyond", x.pass(1), NO);
        due("8: pass(0) beyond", x.pass(0), BAD);
    }

    private static void promise9() {
        MayorsChair x = new MayorsChair();
        due("9: mud(0, 40)", x.mud(0, 40), 0);
        due("9: mud(0, 40) again", x.mud(0, 40), NO);
        due("9: mud(0, 3) in its place", x.mud(0, 3), 40);
        due("9: mud(0, 0)", x.mud(0, 0), 3);
        due("9: mud(0, 0) again", x.mud(0, 0), NO);
        due("9: undoable", x.count(8), 3);
        for (int[] wrong : new int[][] {{-1, 1}, {5, 1}, {0, -1}, {0, 41}, {5, 0}}) {
            due("9: mud(" + wrong[0] + ", " + wrong[1] + ")", x.mud(wrong[0], wrong[1]), BAD);
        }
        due("9: nothing changes", x.count(8), 3);
    }

    private static void promise10() {
        MayorsChair x = laid("s3,40,0;s1,20,0;w40;");
        due("10: give(0, 1, 40)", x.give(0, 1, 40), 0);
        due("10: in full", x.street(1, 1), 60);
        due("10: give(0, 1, 1) of nothing", x.give(0, 1, 1), NO);
        due("10: give(1, 0, 1)", x.give(1, 0, 1), 59);
        due("10: in full to the spending", x.street(0, 1), 1);
        due("10: give(0, 1, 2)", x.give(0, 1, 2), NO);
        for (int[] wrong : new int[][] {{0, 0, 1}, {0, 2, 1}, {2, 0, 1}, {-1, 0, 1}, {0, -1, 1}, {1, 0, 0}, {1, 0, 41}, {0, 0, 40}}) {
            due("10: give(" + wrong[0] + ", " + wrong[1] + ", " + wrong[2] + ")", x.give(wrong[0], wrong[1], wrong[2]), BAD);
        }
        due("10: undoable", x.count(8), 2);
        x = laid("s0,99,0;s0,99,0;w40;");
        for (int i = 0; i < 2; i++) {
            x.pass(20);
        }
        x.pass(4);
        due("10: 22 works each", x.street(0, 1) * 1000 + x.street(1, 1), 979979);
        due("10: give(0, 1, 1) to one of 979", x.give(0, 1, 1), NO);
        x.undo();
        x.pass(2);
        due("10: 21 works each", x.street(0, 1) * 1000 + x.street(1, 1), 939939);
        due("10: give(0, 1, 20)", x.give(0, 1, 20), 919);
        due("10: give(0, 1, 1) to one of 959", x.give(0, 1, 1), 918);
        due("10: give(0, 1, 1) to one of 960", x.give(0, 1, 1), NO);
        x.undo();
        due("10: give(0, 1, 40) to one of 959", x.give(0, 1, 40), 879);
        due("10: 999 then", x.street(1, 1), 999);
    }

    private static void promise11() {
        MayorsChair x = new MayorsChair();
        due("11: change(0, 2)", x.change(0, 2), 15);
        due("11: change(1, 2)", x.change(1, 2), 15);
        due("11: work(1)", x.work(1), 9);
        due("11: work(2)", x.work(2), 4);
        x.pass(1);
        due("11: change(0, 1) behind a quarter", x.change(0, 1), 15);
        due("11: the turn stays", x.count(6), 1);
        due("11: undoable", x.count(8), 4);
        for (int[] wrong : new int[][] {{0, 0}, {-1, 0}, {0, -1}, {3, 0}, {0, 3}}) {
            due("11: change(" + wrong[0] + ", " + wrong[1] + ")", x.change(wrong[0], wrong[1]), BAD);
        }
        x = laid("s0,1,0;s0,1,0;w5;w5;");
        due("11: change(1, 0) of two alike", x.change(1, 0), 5);
        due("11: undoable all the same", x.count(8), 1);
    }

    private static void promise12() {
        MayorsChair x = new MayorsChair();
        due("12: undo() of nothing", x.undo(), NO);
        x.mud(1, 1);
        x.give(0, 1, 1);
        x.change(0, 1);
        x.pass(20);
        due("12: firewood so far", x.count(5) > 0 ? 1 : 0, 1);
        x.seen(1, 1);
        due("12: undo() of 20 quarters", x.undo(), 3);
        due("12: the quarter", x.count(2), 0);
        due("12: firewood of what is undone is none", x.count(5), 0);
        due("12: the chair", x.count(3), NONE);
        due("12: how often", x.street(4, 5), 0);
        due("12: what is seen stays", x.count(7), 1);
        due("12: work(0) still put otherwise", x.work(0), 4);
        due("12: undo() of change", x.undo(), 2);
        due("12: work(0)", x.work(0), 9);
        due("12: undo() of give", x.undo(), 1);
        due("12: wealth", x.street(0, 1) * 100 + x.street(1, 1), 2008);
        due("12: undo() of mud", x.undo(), 0);
        due("12: mud", x.street(1, 4), 0);
        due("12: undo() of nothing more", x.undo(), NO);
        for (int m = 1; m <= 10; m++) {
            x.mud(0, m);
        }
        for (int left = 7; left >= 0; left--) {
            due("12: undo() of the last 8", x.undo(), left);
            due("12: mud then", x.street(0, 4), left + 2);
        }
        due("12: undo() of the ninth", x.undo(), NO);
    }

    private static void promise13() {
        MayorsChair x = new MayorsChair();
        due("13: behind(0, 0, 0)", x.behind(0, 0, 0), 20);
        due("13: behind(0, 4, 1)", x.behind(0, 4, 1), 0);
        due("13: behind(1, 4, 1)", x.behind(1, 4, 1), 1);
        due("13: behind(60, 4, 0)", x.behind(60, 4, 0), 0);
        x.pass(1);
        due("13: in all", x.behind(1, 4, 1), 2);
        due("13: nothing changes by it", x.count(2), 1);
        x = laid(TWINS);
        due("13: behind(59, 0, 0)", x.behind(59, 0, 0), 305);
        due("13: behind(60, 1, 0)", x.behind(60, 1, 0), 305);
        for (int[] wrong : new int[][] {{-1, 0, 0}, {61, 0, 0}, {0, -1, 0}, {0, 2, 0}, {0, 0, -1}, {0, 0, 2}}) {
            due("13: behind(" + wrong[0] + ", " + wrong[1] + ", " + wrong[2] + ")", x.behind(wrong[0], wrong[1], wrong[2]), BAD);
        }
        for (int i = 0; i < 50; i++) {
            x.pass(i < 49 ? 20 : 19);
        }
        // Both have 999 behind 200 quarters, a hundred each; from then on the lowest of two that look alike.
        due("13: beyond the last quarter", x.behind(60, 0, 1), 100 + 799 + 60);
    }

    private static void promise14() {
        MayorsChair x = laid(TWINS);
        due("14: first(0)", x.first(0), 1);
        due("14: first(1)", x.first(1), 2);
        due("14: first(2)", x.first(2), BAD);
        due("14: first(-1)", x.first(-1), BAD);
        x.pass(1);
        due("14: first(0), where it stands now", x.first(0), 2);
        x = laid("s0,59,0;s0,0,0;s0,1,0;w1;");
        x.mud(2, 1);
        due("14: first(0), behind firewood for ever", x.first(0), NONE);
        x = laid("s0,60,0;s0,1,0;w1;");
        due("14: first(0), behind 60", x.first(0), 60);
        x = laid("s0,61,0;s0,1,0;w1;");
        due("14: first(0), behind 61", x.first(0), NONE);
    }

    private static void promise15() {
        MayorsChair x = laid("s0,61,0;s0,1,0;w1;");
        due("15: even(60)", x.even(60), 0);
        due("15: even(59)", x.even(59), 1);
        due("15: even(0), behind 60", x.even(0), 60);
        due("15: even(99)", x.even(99), 0);
        due("15: even(-1)", x.even(-1), BAD);
        due("15: even(100)", x.even(100), BAD);
        x = laid("s0,62,0;s0,1,0;w1;");
        due("15: even(0), behind 61", x.even(0), NONE);
        x = laid("s0,5,0;s0,1,0;s0,9,0;w1;");
        due("15: even(7)", x.even(7), 1);
        due("15: even(8), the richest the last", x.even(8), 0);
        x = laid("s1,9,0;s2,9,0;w3;");
        due("15: even(0) by wealth, not by looks", x.even(0), 0);
        x.mud(1, 9);
        due("15: mud has nothing to do with it", x.even(0), 0);
    }

    private static void promise16() {
        MayorsChair x = laid("s0,10,0;s0,4,0;w10;w1;w40;");
        due("16: order(1, -1)", x.order(1, -1), 10);
        due("16: order(1, 0)", x.order(1, 0), 0);
        due("16: order(1, 1)", x.order(1, 1), 1);
        due("16: order(1, 2)", x.order(1, 2), 2);
        due("16: order(2, -1)", x.order(2, -1), 20);
        due("16: order(2, 0), by its number", x.order(2, 0), 2);
        due("16: order(2, 1), the lowest ahead", x.order(2, 1), 0);
        due("16: order(2, 2)", x.order(2, 2), 1);
        x.pass(1);
        due("16: the turn stays, two to come at 1 and 2", x.order(1, -1), 14);
        due("16: 0, 1, 2 gives 11 alone", x.order(1, 0) * 100 + x.order(1, 1) * 10 + x.order(1, 2), 21);
        due("16: nothing changes by it", x.work(0) * 100 + x.work(2), 1040);
        for (int[] wrong : new int[][] {{0, 0}, {41, 0}, {1, -2}, {1, 3}, {-1, -1}}) {
            due("16: order(" + wrong[0] + ", " + wrong[1] + ")", x.order(wrong[0], wrong[1]), BAD);
        }
        x = laid("s0,10,0;s0,1,0;w1;w1;w1;w1;w1;w9;");
        due("16: six works: how much", x.order(1, -1), 10);
        for (int k = 0; k < 6; k++) {
            due("16: six works: the largest first", x.order(1, k), k == 0 ? 5 : k - 1);
        }
        // 25 in all, so that 12 is the most; the 9 can be the fourth for that, not the fifth.
        due("16: six works, six quarters: how much", x.order(6, -1), 12);
        int[] best = {0, 1, 2, 5, 3, 4};
        for (int k = 0; k < 6; k++) {
            due("16: six works, six quarters: " + k, x.order(6, k), best[k]);
        }
        x = laid("s0,10,0;s0,1,0;w1;");
        due("16: one work", x.order(9, 0) * 100 + x.order(9, -1), 10);
    }

    private static void promise17() {
        MayorsChair x = laid("s0,40,0;s0,2,2;s0,1,0;w1;");
        due("17: paint(1), without mud", x.paint(1), 0);
        due("17: paint(2), alike is not enough", x.paint(2), NONE);
        due("17: paint(0), down to nothing", x.paint(0), 40);
        x.mud(1, 3);
        due("17: paint(1), in place of what is", x.paint(1), 0);
        due("17: nothing changes by it", x.street(1, 4), 3);
        x = laid("s0,41,0;s0,5,0;s0,9,0;w1;");
        due("17: paint(0)", x.paint(0), 36);
        due("17: paint(2)", x.paint(2), 5);
        x.mud(1, 5);
        due("17: paint(0), 40 is not enough", x.paint(0), NONE);
        due("17: paint(3)", x.paint(3), BAD);
        due("17: paint(-1)", x.paint(-1), BAD);
    }

    private static void promise18() {
        MayorsChair x = laid("s0,10,0;s3,4,9;w2;");
        due("18: help(5, 0, 0)", x.help(5, 0, 0), 1);
        due("18: help(5, 0, 1), in full to the spending", x.help(5, 0, 1), 9);
        due("18: help(40, 0, 1)", x.help(40, 0, 1), 10);
        due("18: help(1, 0, 1)", x.help(1, 0, 1), 5);
        due("18: help(1, 40, 1)", x.help(1, 40, 1), 0);
        due("18: help(5, 1, 0), of several the lowest", x.help(5, 1, 0), 0);
        due("18: help(5, 1, 1)", x.help(5, 1, 1), 0);
        due("18: nothing changes by it", x.street(1, 1), 4);
        for (int[] wrong : new int[][] {{0, 0, 0}, {41, 0, 0}, {1, -1, 0}, {1, 41, 0}, {1, 0, -1}, {1, 0, 2}}) {
            due("18: help(" + wrong[0] + ", " + wrong[1] + ", " + wrong[2] + ")", x.help(wrong[0], wrong[1], wrong[2]), BAD);
        }
        x = laid("s0,99,0;s0,99,0;w40;");
        for (int i = 0; i < 3; i++) {
            x.pass(20);
        }
        due("18: 999 at most", x.help(40, 0, 1), 999);
        due("18: 999 at most, which", x.help(40, 40, 0), 0);
    }

    private static void promise19and20() {
        MayorsChair x = new MayorsChair();
        due("20: forget() of nothing", x.forget(), 0);
        due("19: seen(1, 4)", x.seen(1, 4), 1);
        due("19: seen(40, 0), true or not", x.seen(40, 0), 2);
        due("19: seen(1, 4) again", x.seen(1, 4), 3);
        for (int[] wrong : new int[][] {{0, 0}, {41, 0}, {1, -1}, {1, 5}}) {
            due("19: seen(" + wrong[0] + ", " + wrong[1] + ")", x.seen(wrong[0], wrong[1]), BAD);
        }
        x.seen(2, 4);
        x.seen(3, 4);
        due("19: the sixth", x.seen(4, 4), 6);
        due("19: the seventh", x.seen(5, 4), FULL);
        due("19: a wrong seventh", x.seen(0, 4), BAD);
        due("19: six", x.count(7), 6);
        due("19: cannot be undone", x.undo(), NO);
        due("20: forget()", x.forget(), 6);
        due("20: forget() again", x.forget(), 0);
        due("20: none", x.count(7), 0);
    }

    private static void promise21() {
        MayorsChair x = new MayorsChair();
        due("21: kinds(0), nothing seen", x.kinds(0), 15);
        x.seen(1, 4);
        due("21: kinds(4): not the proud", x.kinds(4), 13);
        due("21: kinds(3)", x.kinds(3), 15);
        x.seen(1, 3);
        due("21: kinds(4), both at once", x.kinds(4), 0);
        due("21: kinds(5)", x.kinds(5), BAD);
        due("21: kinds(-1)", x.kinds(-1), BAD);
        x = laid("s0,8,0;s0,5,0;w1;");
        x.seen(1, 0);
        due("21: kinds(0): sly and spending", x.kinds(0), 12);
        due("21: kinds(1): the proud", x.kinds(1), 2);
        due("21: nothing changes by it", x.street(0, 0), 0);
        x.mud(0, 4);
        due("21: by how all stands when that is asked", x.kinds(0), 13);
    }

    private static void promise22() {
        MayorsChair x = laid("s0,8,0;s0,5,0;w1;");
        due("22: uses(0), nothing seen", x.uses(0), 1023);
        x.seen(1, 0);
        due("22: uses(0): 3 and more", x.uses(0), 1023 - 7);
        due("22: uses(1): none", x.uses(1), 0);
        due("22: uses(2)", x.uses(2), BAD);
        due("22: uses(-1)", x.uses(-1), BAD);
        due("22: nothing changes by it", x.street(0, 2), 0);
        x.seen(2, 1);
        due("22: uses(0): by 3 and more it stands there again", x.uses(0), 0);
        x.forget();
        x.seen(2, 0);
        due("22: uses(0): by 1 it looks like the other one then", x.uses(0), 1023 - 1);
        x.pass(1);
        due("22: by how all stands when that is asked", x.uses(0), 1023 - 1);
        x.pass(1);
        due("22: 8 and 7 now", x.uses(0), 1023);
    }

    private static void promise23() {
        MayorsChair x = laid(TWINS);
        due("23: likely(0, 1, 3, 0)", x.likely(0, 1, 3, 0), 7);
        due("23: likely(0, 1, 3, 1)", x.likely(0, 1, 3, 1), 10);
        due("23: likely(1, 1, 4, 0), in lowest terms", x.likely(1, 1, 4, 0), 2);
        due("23: likely(1, 1, 4, 1)", x.likely(1, 1, 4, 1), 5);
        due("23: likely(0, 1, 0, 0)", x.likely(0, 1, 0, 0), 1);
        due("23: likely(0, 1, 0, 1)", x.likely(0, 1, 0, 1), 1);
        due("23: likely(1, 8, 0, 0)", x.likely(1, 8, 0, 0), 1);
        due("23: likely(0, 8, 0, 0), never", x.likely(0, 8, 0, 0), 0);
        due("23: likely(0, 8, 0, 1), never", x.likely(0, 8, 0, 1), 1);
        due("23: likely(1, 2, 10, 0), astray each time", x.likely(1, 2, 10, 0), 1);
        due("23: likely(1, 2, 1, 0): 81 right twice, 1 wrong twice", x.likely(1, 2, 1, 0), 41);
        due("23: likely(1, 2, 1, 1)", x.likely(1, 2, 1, 1), 50);
        x = laid("s0,9,0;s0,4,0;s0,4,0;w1;");
        due("23: the poorest of the others, the lowest", x.likely(2, 1, 10, 0), 1);
        due("23: not the richest", x.likely(0, 1, 10, 0), 0);
        due("23: nothing changes by it", x.count(2), 0);
        for (int[] wrong : new int[][] {{-1, 1, 1, 0}, {3, 1, 1, 0}, {0, 0, 1, 0}, {0, 9, 1, 0}, {0, 1, -1, 0}, {0, 1, 11, 0},
            {0, 1, 1, -1}, {0, 1, 1, 2}}) {
            due("23: likely(" + wrong[0] + ", " + wrong[1] + ", " + wrong[2] + ", " + wrong[3] + ")",
                x.likely(wrong[0], wrong[1], wrong[2], wrong[3]), BAD);
        }
    }

    private static void promise24() {
        due("24: x 1", draw(0, 0), 0);
        due("24: x 6152, 41487 modulo", draw(0, 1), 20743);
        due("24: x 12303, 10299 modulo", draw(0, 2), 5149);
        MayorsChair x = laid("s0,5,0;s0,3,0;w10;");
        x.mud(0, 9);
        due("24: decade(0, 1, 1): the draw 0 leaves no mud on 0", x.decade(0, 1, 1), 1);
        due("24: decade(0, 1, 0)", x.decade(0, 1, 0), 18);
        due("24: decade(0, 3, 1): mud of 324 modulo 12, then nothing", x.decade(0, 3, 1), 1);
        due("24: decade(0, 3, 0)", x.decade(0, 3, 0), 38);
        due("24: nothing changes by it", x.street(0, 4) * 10 + x.count(2), 90);
        int mud = zOf(0);
        int gift = zOf(1);
        int fire = zOf(2);
        x = laid("s0,80,0;s0,90,0;w1;");
        due("24: mud of 11 on the second", x.decade(mud, 1, 1), 1);
        due("24: its work", x.decade(mud, 1, 0), 171);
        x = laid("s0,2,0;s0,2,0;w1;");
        due("24: a gift of 1, no more", x.decade(gift, 1, 0) * 10 + x.decade(gift, 1, 2), 50);
        due("24: decade(9999, 60, 1)", x.decade(9999, 60, 1) >> 1, 0);
        x = laid("s0,5,0;s0,5,0;w1;");
        due("24: the second gives", x.decade(gift, 1, 1), 1);
        due("24: and has a work", x.decade(gift, 1, 0), 11);
        x = laid("s0,5,0;s0,0,0;w1;");
        due("24: the second cannot give", x.decade(gift, 1, 0) * 10 + x.decade(gift, 1, 2), 51);
        x = laid("s0,99,0;s0,99,0;w40;");
        x.pass(20);
        x.pass(20);
        x.pass(4);
        due("24: the second cannot give to one of 979", x.decade(gift, 1, 1), 0);
        x = laid("s0,5,0;s0,50,0;w1;");
        due("24: fire at the second", x.decade(fire, 1, 0), 5);
        due("24: the chair is firewood there", x.decade(fire, 1, 1) * 10 + x.decade(fire, 1, 2), 11);
        x = laid("s0,0,0;s0,50,0;w1;");
        x.pass(5);
        due("24: firewood in it, not ahead of it", x.decade(0, 1, 2), 1);
        for (int[] wrong : new int[][] {{-1, 1, 0}, {10000, 1, 0}, {0, 0, 0}, {0, 61, 0}, {0, 1, -1}, {0, 1, 3}}) {
            due("24: decade(" + wrong[0] + ", " + wrong[1] + ", " + wrong[2] + ")", x.decade(wrong[0], wrong[1], wrong[2]), BAD);
        }
    }

    private static long draw(long z, long q) {
        long x = 7919 * z + 6151 * q + 1;
        return x * x % 65521 / 2;
    }

    /** A decade whose first draw does that to the second of two: mud of 11, a gift to the first, fire. */
    private static int zOf(int deed) {
        for (int z = 0; z < 10000; z++) {
            long d = draw(z, 0);
            boolean suits = deed == 0 ? d / 64 % 12 == 11 : d / 64 % 2 == 0;
            if (d % 2 == 1 && d / 8 % 4 == deed && suits) {
                return z;
            }
        }
        return -1;
    }

    private static void promise25and26() {
        MayorsChair x = new MayorsChair();
        due("26: back() of nothing", x.back(), NO);
        x.pass(2);
        x.mud(1, 7);
        x.change(0, 1);
        due("25: keep()", x.keep(), 1);
        due("25: what can be undone stays", x.count(8), 3);
        x.pass(20);
        due("25: keep() of another", x.keep(), 2);
        due("25: keep() of a third", x.keep(), FULL);
        x.seen(3, 1);
        x.write('w');
        x.pass(20);
        x.undo();
        due("26: undo() leaves what is kept", x.count(9), 2);
        x.pass(1);
        due("26: back()", x.back(), 1);
        due("26: as kept last", x.count(2), 22);
        due("26: nothing is undone then", x.undo(), NO);
        x.pass(1);
        due("26: back() to the first", x.back(), 0);
        due("26: quarter", x.count(2), 2);
        due("26: firewood as kept", x.count(5), 2);
        due("26: chair", x.count(3), 4);
        due("26: mud", x.street(1, 4), 7);
        due("26: works", x.work(0) * 10 + x.work(1), 49);
        due("26: the text stays", x.count(10), 1);
        due("26: what is seen stays", x.count(7), 1);
        due("26: nothing can be undone", x.count(8), 0);
        due("26: back() of nothing more", x.back(), NO);
        due("25: keep() again", x.keep(), 1);
    }

    private static void promise27() {
        MayorsChair x = laid("s0,9,0;s0,0,1;w1;w2;w3;w4;");
        x.pass(6);
        x.seen(1, 1);
        x.keep();
        int[] counts = {2, 4, 6, 1, 9, 6, 2, 1, 1, 1, 26};
        for (int what = 0; what < counts.length; what++) {
            due("27: count(" + what + ")", x.count(what), counts[what]);
        }
        for (int wrong : new int[] {-1, 11, Integer.MIN_VALUE, Integer.MAX_VALUE}) {
            due("27: count(" + wrong + ")", x.count(wrong), BAD);
        }
    }
}
