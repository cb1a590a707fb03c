import java.util.List;
import java.util.function.Supplier;
import java.util.function.ToIntFunction;

/**
 * Promises 1 to 27, sentence by sentence: for each number that a call takes the last on either side and the first
 * that is refused, for each other refusal the case just beside it, and behind each that nothing has changed.
 */
public final class BoundsTest {
    private static final int BAD = -1, NO = -2, FULL = -3, NONE = -4;
    private static final List<Supplier<MayorsChair>> STARTS =
        List.of(MayorsChair::new, Twins::busy, Twins::crammed, Twins::last, BoundsTest::large);

    public static void main(String[] args) {
        newObject();
        write();
        writeFull();
        wipe();
        fault();
        faultNone();
        lay();
        layNothingElse();
        layNo();
        street();
        work();
        pass();
        passNo();
        mud();
        mudNo();
        give();
        giveAlike();
        giveNotSoMuch();
        giveTooRich();
        change();
        changeAlike();
        undo();
        behind();
        first();
        firstNone();
        even();
        evenNone();
        order();
        paint();
        paintNone();
        help();
        seen();
        seenFull();
        forget();
        kinds();
        uses();
        likely();
        decade();
        keep();
        back();
        backNo();
        count();
        countWhereTheChairStands();
        countFirewood();
        Check.finish("BoundsTest");
    }

    private static void sentence(String text) {
        Check.sentence(text);
    }

    private static void due(String call, long got, long want) {
        Check.due(call, got, want);
    }

    private static void still(String call, Supplier<MayorsChair> start, ToIntFunction<MayorsChair> run, int want) {
        Twins.still(call, start, run, want);
    }

    private static MayorsChair laid(String text) {
        return Twins.laid(text);
    }

    private static MayorsChair passed(String text, int quarters) {
        return Twins.passed(Twins.laid(text), quarters);
    }

    /** Six streets and six works, some quarters on. */
    private static MayorsChair large() {
        MayorsChair x = laid("s0,50,1;s1,40,2;s2,60,3;s3,99,4;s0,7,0;s1,9,9;w1;w2;w3;w4;w39;w40;");
        x.keep();
        x.pass(7);
        x.mud(0, 9);
        return x;
    }

    private static MayorsChair twins() {
        return laid("s0,5,0;s0,5,0;w10;");
    }

    /** In each kind of town, with as many streets, works as it has: they are taken, the next one is BAD. */
    private static void edgesOfStreets(String call, Twins.Numbered run) {
        for (Supplier<MayorsChair> start : STARTS) {
            Twins.edges(call, start, run, 0, start.get().count(0) - 1);
        }
    }

    private static void edgesOfWorks(String call, Twins.Numbered run) {
        for (Supplier<MayorsChair> start : STARTS) {
            Twins.edges(call, start, run, 0, start.get().count(1) - 1);
        }
    }

    private static void edges(String call, Twins.Numbered run, int least, int most) {
        for (Supplier<MayorsChair> start : STARTS) {
            Twins.edges(call, start, run, least, most);
        }
    }

    private static void newObject() {
        sentence("1: As told; THE TEXT is empty");
        MayorsChair x = new MayorsChair();
        due("letters", x.count(10), 0);
        due("wipe()", x.wipe(), 0);
        due("fault()", x.fault(), NONE);
        due("where the CHAIR stands", x.count(3), NONE);
        for (int what : new int[] {2, 5, 6, 7, 8, 9}) {
            due("count(" + what + ")", x.count(what), 0);
        }
        for (int s = 0; s < 5; s++) {
            due("no MUD, nowhere stood", x.street(s, 4) + x.street(s, 5), 0);
        }
        still("nothing to UNDO", MayorsChair::new, MayorsChair::undo, NO);
        still("nothing KEPT", MayorsChair::new, MayorsChair::back, NO);
        still("nothing SEEN", MayorsChair::new, MayorsChair::forget, 0);
        still("nothing to lay", MayorsChair::new, MayorsChair::lay, NO);
        MayorsChair other = new MayorsChair();
        other.pass(20);
        other.write('w');
        due("another object is another one", x.count(2) * 10 + x.count(10), 0);
    }

    private static void write() {
        sentence("2: A letter (32 to 126, as in ASCII) comes behind THE TEXT: how long it is. BAD");
        Twins.edges("write", MayorsChair::new, MayorsChair::write, 32, 126);
        Twins.edges("write", Twins::busy, MayorsChair::write, 32, 126);
        for (int letter : new int[] {0, 10, 31, 127, 160, 256 + 's', 65536 + 's', -1, -'s'}) {
            still("write(" + letter + ")", Twins::busy, x -> x.write(letter), BAD);
        }
        MayorsChair x = new MayorsChair();
        due("write(32)", x.write(32), 1);
        due("write(126)", x.write(126), 2);
        due("fault()", x.fault(), 0);
    }

    private static void writeFull() {
        sentence("2: FULL");
        MayorsChair x = Twins.crammed();
        due("200 letters", x.count(10), 200);
        for (int letter : new int[] {32, 's', 126}) {
            still("write(" + letter + ") of letter 201", Twins::crammed, y -> y.write(letter), FULL);
        }
        for (int letter : new int[] {31, 127}) {
            still("write(" + letter + ") of letter 201", Twins::crammed, y -> y.write(letter), BAD);
        }
        x = new MayorsChair();
        Twins.write(x, " ".repeat(199));
        due("letter 200", x.write('~'), 200);
        due("letter 201", x.write('~'), FULL);
    }

    private static void wipe() {
        sentence("3: THE TEXT is empty: how long it was");
        due("of 200", Twins.crammed().wipe(), 200);
        still("of none", MayorsChair::new, MayorsChair::wipe, 0);
        MayorsChair x = Twins.crammed();
        x.wipe();
        due("again", x.wipe(), 0);
        due("letters", x.count(10), 0);
        due("fault()", x.fault(), NONE);
        due("lay()", x.lay(), NO);
        due("write() behind it", x.write('q'), 1);
        due("fault() behind it", x.fault(), 0);
        due("of 1", x.wipe(), 1);
        due("what can be UNDONE stays", x.count(8), 8);
        due("SEEN stays", x.count(7), 6);
        due("KEPT stays", x.count(9), 2);
    }

    private static void fault() {
        sentence("4: FAULT");
        still("of the first letter", () -> Twins.written("~"), MayorsChair::fault, 0);
        still("of the eighth", () -> Twins.written("s0,9,9;~"), MayorsChair::fault, 7);
        still("of a full TEXT", Twins::crammed, MayorsChair::fault, 42);
        still("of a town laid already", Twins::busy, MayorsChair::fault, NONE);
        String longest = "s00,00,00;".repeat(6) + "w01;".repeat(6);
        still("of the last place that there can be", () -> Twins.written(longest + "w01;"), MayorsChair::fault, 84);
    }

    private static void faultNone() {
        sentence("4: NONE");
        still("of the empty TEXT", MayorsChair::new, MayorsChair::fault, NONE);
        for (String text : new String[] {"w1;", "s0,0,0;", "s0,0,0;w40;", "s00,00,00;".repeat(6) + "w01;".repeat(6)}) {
            still("of " + text, () -> Twins.written(text), MayorsChair::fault, NONE);
            due("of it, a letter less", Twins.written(text.substring(0, text.length() - 1)).fault(), Math.max(
                text.lastIndexOf('s'), text.lastIndexOf('w')));
        }
    }

    private static void lay() {
        sentence("5: LAID: how many STREETS");
        String streets = "s0,1,1;s1,2,2;s2,3,3;s3,4,4;s0,5,5;s1,99,9;";
        for (int many = 2; many <= 6; many++) {
            for (int works = 1; works <= 6; works++) {
                String text = streets.substring(0, 7 * many + many / 6) + "w40;".repeat(works);
                MayorsChair x = Twins.written(text);
                due("lay() of " + text, x.lay(), many);
                due("STREETS", x.count(0), many);
                due("WORKS", x.count(1), works);
            }
        }
    }

    private static void layNothingElse() {
        sentence("5: QUARTER 0, the CHAIR in none, no MUD, nothing SEEN, UNDONE, KEPT (THE TEXT stays)");
        for (Supplier<MayorsChair> start : STARTS) {
            MayorsChair x = start.get();
            x.wipe();
            x.mud(1, 3);
            x.seen(1, 1);
            Twins.write(x, "s0,10,1;s1,9,0;w3;w4;");
            due("lay()", x.lay(), 2);
            int[] counts = {2, 2, 0, NONE, 19, 0, 0, 0, 0, 0, 21};
            for (int what = 0; what <= 10; what++) {
                due("count(" + what + ")", x.count(what), counts[what]);
            }
            for (int s = 0; s < 2; s++) {
                due("no MUD", x.street(s, 4), 0);
                due("nowhere stood", x.street(s, 5), 0);
            }
            due("undo()", x.undo(), NO);
            due("back()", x.back(), NO);
            due("keep() of two", x.keep() * 10 + x.keep(), 12);
            due("nothing SEEN", x.kinds(0) * 10000 + x.uses(1), 151023);
            due("seen()", x.seen(1, 0), 1);
            due("fault()", x.fault(), NONE);
            due("lay() again", x.lay(), 2);
            due("KEPT no more", x.count(9), 0);
        }
    }

    private static void layNo() {
        sentence("5: NO");
        for (String text : new String[] {"", "s0,1,1;w1;", "s0,1,1;s0,1,1;", "s0,1,1;s0,1,1;w41;", "s0,1,1;s0,1,1;w1; "}) {
            for (Supplier<MayorsChair> start : List.<Supplier<MayorsChair>>of(MayorsChair::new, Twins::busy, Twins::last)) {
                still("lay() of " + text, () -> {
                    MayorsChair x = start.get();
                    x.wipe();
                    Twins.write(x, text);
                    return x;
                }, MayorsChair::lay, NO);
            }
        }
        still("lay() of a full TEXT", Twins::crammed, MayorsChair::lay, NO);
    }

    private static void street() {
        sentence("6: Of a STREET: KIND (what = 0), WEALTH (1), what it USES (2), as how poor it LOOKS (3), MUD (4), "
            + "how often the CHAIR stood there (5). BAD");
        edges("street, what", (x, what) -> x.street(1, what), 0, 5);
        edgesOfStreets("street, s", (x, s) -> x.street(s, 5));
        MayorsChair x = Twins.crammed();
        for (int s = 0; s < 5; s++) {
            int of = s;
            for (int what = 0; what <= 5; what++) {
                int which = what;
                still("street(" + s + ", " + what + ")", Twins::crammed, y -> y.street(of, which), x.street(s, what));
            }
        }
        x = passed("s0,0,0;s0,9,0;w1;", 999);
        due("how often, as often as there can be", x.street(0, 5), 999);
        due("how often, never", x.street(1, 5), 0);
    }

    private static void work() {
        sentence("7: What the k-th WORK is worth (as they are put now). BAD");
        edgesOfWorks("work", MayorsChair::work);
        MayorsChair x = laid("s0,1,1;s0,1,1;w1;w40;w7;");
        due("work(0)", x.work(0), 1);
        due("work(2)", x.work(2), 7);
        x.change(0, 2);
        due("work(0), as put now", x.work(0), 7);
        due("work(2), as put now", x.work(2), 1);
        x.pass(1);
        due("work(0), not by the turn", x.work(0), 7);
        still("work(0) of one", () -> laid("s0,1,1;s0,1,1;w40;"), y -> y.work(0), 40);
        still("work(1) of one", () -> laid("s0,1,1;s0,1,1;w40;"), y -> y.work(1), BAD);
    }

    private static void pass() {
        sentence("8: n (1 to 20) QUARTERS go by: where the CHAIR stands then. BAD");
        Supplier<MayorsChair> early = BoundsTest::large;
        Twins.edges("pass", early, MayorsChair::pass, 1, 20);
        Twins.edges("pass", Twins::busy, MayorsChair::pass, 1, 20);
        Twins.edges("pass", Twins::crammed, MayorsChair::pass, 1, 20);
        Twins.edges("pass", Twins::last, MayorsChair::pass, 1, 20);
        for (int n = 1; n <= 20; n++) {
            MayorsChair x = twins();
            due("pass(" + n + ")", x.pass(n), (n + 1) % 2);
            due("QUARTER", x.count(2), n);
            due("where", x.count(3), (n + 1) % 2);
            due("UNDONE at once", x.count(8), 1);
        }
    }

    private static void passNo() {
        sentence("8: NO: it would be above 999");
        for (int quarter = 979; quarter <= 999; quarter++) {
            int at = quarter;
            int most = 999 - quarter;
            if (most > 0) {
                MayorsChair x = passed("s0,0,0;s0,50,0;w1;", quarter);
                due("pass(" + most + ") to the last", x.pass(most), 0);
                due("QUARTER", x.count(2), 999);
                due("it can be UNDONE", x.undo(), 7);
                due("QUARTER", x.count(2), quarter);
            }
            if (most < 20) {
                still("pass(" + (most + 1) + ") beyond", () -> passed("s0,0,0;s0,50,0;w1;", at), y -> y.pass(most + 1), NO);
            }
        }
        still("pass(20) in the last", Twins::last, y -> y.pass(20), NO);
        still("pass(1) in the last", Twins::last, y -> y.pass(1), NO);
        MayorsChair x = Twins.last();
        due("other acts go on there", x.mud(0, 5), 0);
        due("and give", x.give(1, 0, 40), 10);
        due("undo() of these", x.undo() * 10 + x.undo(), 76);
        x.undo();
        due("980 and 20", x.pass(20), NO);
        due("980 and 19", x.pass(19), 0);
        due("QUARTER", x.count(2), 999);
    }

    private static void mud() {
        sentence("9: MUD is m: what it was. BAD (0 to 40)");
        Twins.edges("mud, m", MayorsChair::new, (x, m) -> x.mud(1, m), 0, 40);
        Twins.edges("mud, m", Twins::busy, (x, m) -> x.mud(2, m), 0, 40);
        Twins.edges("mud, m", Twins::last, (x, m) -> x.mud(0, m), 0, 40);
        edgesOfStreets("mud, s", (x, s) -> x.mud(s, 39));
        MayorsChair x = new MayorsChair();
        due("mud(4, 40)", x.mud(4, 40), 0);
        due("mud(4, 0)", x.mud(4, 0), 40);
        due("mud(4, 1)", x.mud(4, 1), 0);
        due("MUD", x.street(4, 4), 1);
    }

    private static void mudNo() {
        sentence("9: NO: it is so much");
        still("0 where none is", MayorsChair::new, x -> x.mud(0, 0), NO);
        for (int m = 0; m <= 40; m++) {
            int so = m;
            Supplier<MayorsChair> start = () -> {
                MayorsChair x = new MayorsChair();
                x.mud(2, so == 40 ? 39 : so + 1);
                x.mud(2, so);
                return x;
            };
            due("it is " + m, start.get().street(2, 4), m);
            still("mud(2, " + m + ") again", start, x -> x.mud(2, so), NO);
        }
        MayorsChair x = new MayorsChair();
        x.mud(4, 3);
        x.pass(1);
        due("none is there any more", x.mud(4, 0), NO);
        due("so much again", x.mud(4, 3), 0);
    }

    private static void give() {
        sentence("10: GIVEN g (1 to 40): WEALTH of the giver then. BAD");
        Supplier<MayorsChair> rich = () -> laid("s0,99,0;s3,1,0;s0,41,0;w1;");
        Twins.edges("give, g", rich, (x, g) -> x.give(0, 1, g), 1, 40);
        Twins.edges("give, g", rich, (x, g) -> x.give(1, 0, g), 1, 40);
        Twins.edges("give, s", rich, (x, s) -> x.give(s, s == 0 ? 1 : 0, 1), 0, 2);
        Twins.edges("give, to", rich, (x, to) -> x.give(to == 0 ? 1 : 0, to, 1), 0, 2);
        for (int g = 1; g <= 40; g++) {
            MayorsChair x = rich.get();
            due("give(0, 1, " + g + ")", x.give(0, 1, g), 99 - g);
            due("the other one in full", x.street(1, 1), 1 + g);
            due("WEALTH of all", x.count(4), 141);
            due("can be UNDONE", x.count(8), 1);
        }
    }

    private static void giveAlike() {
        sentence("10: BAD (alike, too)");
        for (int s = 0; s < 5; s++) {
            int alike = s;
            still("give(" + s + ", " + s + ", 1)", MayorsChair::new, x -> x.give(alike, alike, 1), BAD);
            still("give(" + s + ", " + s + ", 40)", Twins::crammed, x -> x.give(alike, alike, 40), BAD);
        }
    }

    private static void giveNotSoMuch() {
        sentence("10: NO: it has not so much");
        for (int has = 0; has <= 41; has++) {
            int wealth = has;
            Supplier<MayorsChair> start = () -> laid("s0," + wealth + ",0;s0,9,0;w1;");
            if (has >= 1 && has <= 40) {
                due("all of " + has, start.get().give(0, 1, has), 0);
            }
            if (has < 40) {
                still("1 more than all of " + has, start, x -> x.give(0, 1, wealth + 1), NO);
            }
        }
        due("all but 1", laid("s0,41,0;s0,9,0;w1;").give(0, 1, 40), 1);
        still("LOOKS have nothing to do with it", () -> laid("s1,5,0;s0,9,0;w1;"), x -> x.give(0, 1, 6), NO);
        due("LOOKS have nothing to do with it", laid("s2,5,0;s0,9,0;w1;").give(0, 1, 5), 0);
        due("LOOKS have nothing to do with it", laid("s3,5,0;s0,9,0;w1;").give(0, 1, 5), 0);
    }

    private static void giveTooRich() {
        sentence("10: the other one has 960 or more");
        for (int has = 957; has <= 963; has++) {
            int more = has - 880;
            Supplier<MayorsChair> start = () -> passed("s0," + more + ",0;s0,99,0;w40;", 44);
            due("it has", start.get().street(0, 1), has);
            if (has < 960) {
                due("give(1, 0, 1) to " + has, start.get().give(1, 0, 1), 978);
                due("give(1, 0, 40) to " + has, start.get().give(1, 0, 40), 939);
            } else {
                still("give(1, 0, 1) to " + has, start, x -> x.give(1, 0, 1), NO);
                still("give(1, 0, 40) to " + has, start, x -> x.give(1, 0, 40), NO);
            }
        }
        Supplier<MayorsChair> all = () -> passed("s0,99,0;s0,99,0;w40;", 60);
        still("to 999", all, x -> x.give(1, 0, 1), NO);
        Supplier<MayorsChair> both = () -> {
            MayorsChair x = apart(0);
            due("to 939", x.give(0, 1, 40), 19);
            return x;
        };
        still("to 979, not so much either", both, x -> x.give(0, 1, 20), NO);
        still("to 979, all there is", both, x -> x.give(0, 1, 19), NO);
        due("from 979", both.get().give(1, 0, 40), 939);
    }

    private static void change() {
        sentence("11: WORKS a and b change places: what is worth that whose turn it is then. BAD");
        edgesOfWorks("change, a", (x, a) -> x.count(1) < 2 && a == 0 ? 0 : x.change(a, a == 0 ? 1 : 0));
        edgesOfWorks("change, b", (x, b) -> x.count(1) < 2 && b == 0 ? 0 : x.change(b == 0 ? 1 : 0, b));
        MayorsChair x = laid("s0,1,0;s0,99,0;w1;w2;w3;w4;w5;w6;");
        due("change(0, 5) in the turn of 0", x.change(0, 5), 6);
        due("change(1, 2) in the turn of 0", x.change(1, 2), 6);
        x.pass(5);
        due("the turn", x.count(6), 5);
        due("change(4, 5) in the turn of 5", x.change(4, 5), 5);
        due("change(5, 4) in the turn of 5", x.change(5, 4), 1);
        x.pass(1);
        due("behind the last one 0", x.change(1, 2), 6);
        for (int a = 0; a < 6; a++) {
            for (int b = 0; b < 6; b++) {
                if (a != b) {
                    MayorsChair y = laid("s0,1,0;s0,99,0;w1;w2;w3;w4;w5;w6;");
                    due("change(" + a + ", " + b + ")", y.change(a, b), a == 0 ? b + 1 : b == 0 ? a + 1 : 1);
                    for (int k = 0; k < 6; k++) {
                        due("work(" + k + ")", y.work(k), k == a ? b + 1 : k == b ? a + 1 : k + 1);
                    }
                }
            }
        }
    }

    private static void changeAlike() {
        sentence("11: BAD (alike, too)");
        for (Supplier<MayorsChair> start : STARTS) {
            for (int k = 0; k < start.get().count(1); k++) {
                int alike = k;
                still("change(" + k + ", " + k + ")", start, x -> x.change(alike, alike), BAD);
            }
        }
        still("both are none", Twins::busy, x -> x.change(2, 2), BAD);
        still("both are none", Twins::busy, x -> x.change(-1, -1), BAD);
    }

    private static void undo() {
        sentence("12: UNDONE: how many more can be. NO");
        MayorsChair x = Twins.crammed();
        for (int left = 7; left >= 0; left--) {
            due("undo()", x.undo(), left);
            due("can be", x.count(8), left);
        }
        due("undo() of none", x.undo(), NO);
        due("QUARTER, by pass(7) that can be UNDONE no more", x.count(2), 7);
        still("of a new object", MayorsChair::new, MayorsChair::undo, NO);
        still("behind lay()", BoundsTest::twins, MayorsChair::undo, NO);
        still("behind back()", () -> {
            MayorsChair y = Twins.crammed();
            y.back();
            return y;
        }, MayorsChair::undo, NO);
        still("behind calls that ask, tell and keep", () -> {
            MayorsChair y = twins();
            y.behind(60, 0, 0);
            y.order(3, 0);
            y.seen(1, 0);
            y.forget();
            y.decade(3, 3, 0);
            y.keep();
            y.write('w');
            y.wipe();
            return y;
        }, MayorsChair::undo, NO);
        x = twins();
        x.pass(1);
        x.undo();
        due("what is UNDONE is done no more", x.undo(), NO);
        x.pass(1);
        due("and can be done again", x.undo(), 0);
    }

    private static void behind() {
        sentence("13: BEHIND: WEALTH (what = 0), how often (1). BAD");
        edges("behind, n", (x, n) -> x.behind(n, 0, 0), 0, 60);
        edges("behind, what", (x, what) -> x.behind(3, 1, what), 0, 1);
        edgesOfStreets("behind, s", (x, s) -> x.behind(60, s, 1));
        for (Supplier<MayorsChair> start : STARTS) {
            due("behind(0, 1, 0)", start.get().behind(0, 1, 0), start.get().street(1, 1));
            due("behind(0, 1, 1)", start.get().behind(0, 1, 1), start.get().street(1, 5));
        }
        for (Supplier<MayorsChair> start : STARTS) {
            if (start.get().count(2) + 60 > 999) {
                continue;
            }
            MayorsChair x = start.get();
            x.pass(20);
            x.pass(20);
            x.pass(20);
            still("behind(60, 1, 0)", start, y -> y.behind(60, 1, 0), x.street(1, 1));
            still("behind(60, 1, 1)", start, y -> y.behind(60, 1, 1), x.street(1, 5));
        }
        still("beyond the last", Twins::last, y -> y.behind(60, 0, 1), 1059);
        still("999 at most", () -> passed("s0,99,0;s0,99,0;w40;", 44), y -> y.behind(60, 1, 0), 999);
        still("0 at least", () -> laid("s0,99,9;s0,99,9;w1;"), y -> y.behind(60, 1, 0), 0);
    }

    private static void first() {
        sentence("14: FIRST. NONE; BAD");
        edgesOfStreets("first", MayorsChair::first);
        still("behind 1", BoundsTest::twins, x -> x.first(0), 1);
        still("behind 2", BoundsTest::twins, x -> x.first(1), 2);
        still("behind 60", () -> laid("s0,1,0;s0,59,0;w1;"), x -> x.first(1), 60);
        still("behind 1, beyond the last", Twins::last, x -> x.first(0), 1);
    }

    private static void firstNone() {
        sentence("14: NONE");
        still("behind 61", () -> laid("s0,1,0;s0,60,0;w1;"), x -> x.first(1), NONE);
        still("never", Twins::last, x -> x.first(1), NONE);
        still("never, though it stands there", () -> {
            MayorsChair x = laid("s0,3,0;s0,5,0;w1;");
            x.mud(1, 9);
            x.pass(1);
            x.give(0, 1, 3);
            return x;
        }, x -> x.first(1), NONE);
    }

    private static void even() {
        sentence("15: EVEN. NONE; BAD");
        edges("even", MayorsChair::even, 0, 99);
        Supplier<MayorsChair> apart = () -> laid("s0,0,0;s0,99,0;w1;");
        still("even(99) of 99 apart", apart, x -> x.even(99), 0);
        still("even(0) of none apart", BoundsTest::twins, x -> x.even(0), 0);
        still("even(0) behind 60", () -> laid("s0,1,0;s0,61,0;w1;"), x -> x.even(0), 60);
        for (int d = 1; d <= 60; d++) {
            due("even(" + d + ") behind " + (60 - d), laid("s0,1,0;s0,61,0;w1;").even(d), 60 - d);
        }
    }

    /** Two of 499, the first of which gives so much to the other one, then 11 times 40. */
    private static MayorsChair apart(int given) {
        MayorsChair x = passed("s0,99,0;s0,99,0;w40;", 20);
        if (given > 0) {
            due("give(0, 1, " + given + ")", x.give(0, 1, given), 499 - given);
        }
        for (int i = 1; i <= 11; i++) {
            due("give(0, 1, 40)", x.give(0, 1, 40), 499 - given - 40 * i);
        }
        return x;
    }

    private static void evenNone() {
        sentence("15: NONE");
        still("even(98) of 99 apart", () -> laid("s0,0,0;s0,99,0;w1;"), x -> x.even(98), NONE);
        still("even(0) behind 61", () -> laid("s0,1,0;s0,62,0;w1;"), x -> x.even(0), NONE);
        still("even(49), beyond the last", Twins::last, x -> x.even(49), NONE);
        still("even(99) of 998 apart", () -> {
            MayorsChair x = apart(19);
            due("the last 40", x.give(0, 1, 40), 0);
            due("WEALTH of the other", x.street(1, 1), 998);
            return x;
        }, x -> x.even(99), NONE);
        still("even(99) of 880 apart: 40 in each", () -> apart(0), x -> x.even(99), 20);
    }

    private static void order() {
        sentence("16: ORDER: how much (k = -1), the k-th WORK (by its number now). BAD");
        edges("order, n", (x, n) -> x.order(n, -1), 1, 40);
        for (Supplier<MayorsChair> start : STARTS) {
            MayorsChair x = start.get();
            int works = x.count(1);
            int found = 0;
            for (int k = 0; k < works; k++) {
                int which = start.get().order(3, k);
                Check.holds("a WORK by its number now", which >= 0 && which < works);
                found |= 1 << which;
            }
            due("each WORK once", found, (1 << works) - 1);
            Check.holds("order(3, -1), how much", start.get().order(3, -1) >= 0);
            for (int k : new int[] {works, works + 1, -2, -3, Integer.MIN_VALUE, Integer.MAX_VALUE}) {
                still("order(3, " + k + ")", start, y -> y.order(3, k), BAD);
            }
            still("order(3, 0)", start, y -> y.order(3, 0), start.get().order(3, 0));
            still("order(3, -1)", start, y -> y.order(3, -1), start.get().order(3, -1));
        }
        Supplier<MayorsChair> put = () -> {
            MayorsChair x = laid("s0,1,0;s0,99,0;w1;w2;w9;");
            x.change(0, 2);
            return x;
        };
        still("by its number now, not that of THE TEXT", put, x -> x.order(1, 0), 0);
        still("how much", put, x -> x.order(1, -1), 10);
    }

    private static void paint() {
        sentence("17: PAINT. NONE; BAD");
        edgesOfStreets("paint", MayorsChair::paint);
        still("0", BoundsTest::twins, x -> x.paint(0), 0);
        still("1", BoundsTest::twins, x -> x.paint(1), 1);
        still("40", () -> laid("s0,45,0;s0,5,0;w1;"), x -> x.paint(0), 40);
        still("0 in place of 40", () -> {
            MayorsChair x = twins();
            x.mud(0, 40);
            return x;
        }, x -> x.paint(0), 0);
    }

    private static void paintNone() {
        sentence("17: NONE");
        still("41", () -> laid("s0,46,0;s0,5,0;w1;"), x -> x.paint(0), NONE);
        still("alike at 0", () -> laid("s0,0,0;s0,5,0;w1;"), x -> x.paint(1), NONE);
        still("beyond the last", Twins::last, x -> x.paint(1), NONE);
        still("it has 40 already", () -> {
            MayorsChair x = laid("s0,46,0;s0,5,0;w1;");
            x.mud(0, 40);
            return x;
        }, x -> x.paint(0), NONE);
    }

    private static void help() {
        sentence("18: HELP: which (what = 0), how much (1). BAD");
        edges("help, g", (x, g) -> x.help(g, 5, 1), 1, 40);
        edges("help, n", (x, n) -> x.help(5, n, 0), 0, 40);
        edges("help, what", (x, what) -> x.help(5, 5, what), 0, 1);
        Supplier<MayorsChair> two = () -> laid("s0,50,0;s0,10,0;w1;");
        still("help(1, 0, 0)", two, x -> x.help(1, 0, 0), 1);
        still("help(1, 0, 1)", two, x -> x.help(1, 0, 1), 11);
        still("help(40, 40, 0)", two, x -> x.help(40, 40, 0), 1);
        still("help(40, 40, 1)", two, x -> x.help(40, 40, 1), 70);
        still("help(40, 0, 1) beyond the last", Twins::last, x -> x.help(40, 0, 1), 40);
    }

    private static void seen() {
        sentence("19: SEEN: how many. BAD");
        for (Supplier<MayorsChair> start : STARTS) {
            if (start.get().count(7) == 6) {
                continue;
            }
            Twins.edges("seen, n", start, (x, n) -> x.seen(n, 0), 1, 40);
            Twins.edges("seen, s", start, (x, s) -> x.seen(1, s), 0, start.get().count(0) - 1);
        }
        MayorsChair x = twins();
        for (int i = 1; i <= 6; i++) {
            due("seen, " + i, x.seen(i % 2 == 0 ? 40 : 1, i % 2), i);
            due("SEEN", x.count(7), i);
        }
    }

    private static void seenFull() {
        sentence("19: FULL");
        due("6 are", Twins.crammed().count(7), 6);
        still("seen(1, 0)", Twins::crammed, x -> x.seen(1, 0), FULL);
        still("seen(40, 4)", Twins::crammed, x -> x.seen(40, 4), FULL);
        still("seen(1, 4) again", Twins::crammed, x -> x.seen(1, 4), FULL);
        for (int n : new int[] {0, 41}) {
            still("seen(" + n + ", 0)", Twins::crammed, x -> x.seen(n, 0), BAD);
        }
    }

    private static void forget() {
        sentence("20: Nothing is SEEN: how many were");
        still("of none", MayorsChair::new, MayorsChair::forget, 0);
        for (int were = 0; were <= 6; were++) {
            MayorsChair x = twins();
            for (int i = 0; i < were; i++) {
                x.seen(1, 1);
            }
            due("forget()", x.forget(), were);
            due("SEEN", x.count(7), 0);
            due("kinds(0)", x.kinds(0), 15);
            due("uses(0)", x.uses(0), 1023);
            due("forget() again", x.forget(), 0);
            due("seen()", x.seen(1, 0), 1);
        }
        MayorsChair x = Twins.crammed();
        x.forget();
        due("what else there is stays", x.count(8) * 1000 + x.count(9) * 100 + x.count(2), 8208);
    }

    private static void kinds() {
        sentence("21: KINDS, as bits. BAD");
        edgesOfStreets("kinds", MayorsChair::kinds);
        still("none", () -> {
            MayorsChair x = twins();
            x.seen(1, 0);
            x.seen(1, 1);
            return x;
        }, x -> x.kinds(0), 0);
        still("all", BoundsTest::twins, x -> x.kinds(1), 15);
        still("six of them so", Twins::crammed, x -> x.kinds(0), Twins.crammed().kinds(0));
        still("behind 40, beyond the last", Twins::last, x -> x.kinds(0), 15);
    }

    private static void uses() {
        sentence("22: USES, as bits. BAD");
        edgesOfStreets("uses", MayorsChair::uses);
        still("none", () -> {
            MayorsChair x = twins();
            x.seen(1, 0);
            x.seen(1, 1);
            return x;
        }, x -> x.uses(0), 0);
        still("all", BoundsTest::twins, x -> x.uses(1), 1023);
        still("0 alone", () -> {
            MayorsChair x = twins();
            x.seen(1, 0);
            return x;
        }, x -> x.uses(1), 1);
        still("9 alone", () -> {
            MayorsChair x = laid("s0,14,0;s0,5,0;w1;");
            x.seen(1, 0);
            return x;
        }, x -> x.uses(0), 512);
        still("behind 40, beyond the last", Twins::last, x -> x.uses(0), 1023);
    }

    private static void likely() {
        sentence("23: LIKELY: above (part = 0), below (1). BAD");
        edges("likely, n", (x, n) -> x.likely(0, n, 3, 0), 1, 8);
        edges("likely, x", (x, of) -> x.likely(0, 3, of, 1), 0, 10);
        edges("likely, part", (x, part) -> x.likely(0, 3, 5, part), 0, 1);
        edgesOfStreets("likely, s", (x, s) -> x.likely(s, 8, 5, 0));
        for (Supplier<MayorsChair> start : STARTS) {
            for (int n = 1; n <= 8; n += 7) {
                for (int of = 0; of <= 10; of += 5) {
                    oneInAll(start, n, of);
                }
            }
        }
        still("above", BoundsTest::twins, x -> x.likely(0, 1, 4, 0), 3);
        still("below", BoundsTest::twins, x -> x.likely(0, 1, 4, 1), 5);
        still("never: above", BoundsTest::twins, x -> x.likely(1, 1, 0, 0), 0);
        still("never: below", BoundsTest::twins, x -> x.likely(1, 1, 0, 1), 1);
        still("beyond the last", Twins::last, x -> x.likely(1, 8, 1, 1), 10);
    }

    /** It stands somewhere: of all streets together it is 1; each in lowest terms. */
    private static void oneInAll(Supplier<MayorsChair> start, int n, int of) {
        long whole = 100000000L;
        long sum = 0;
        for (int s = 0; s < start.get().count(0); s++) {
            int above = start.get().likely(s, n, of, 0);
            int below = start.get().likely(s, n, of, 1);
            due("below is of a power of ten", whole % below, 0);
            sum += whole / below * above;
            for (int common = 2; common <= 5; common += 3) {
                Check.holds("lowest terms", above % common != 0 || below % common != 0);
            }
        }
        due("all together, n " + n + ", x " + of, sum, whole);
    }

    private static void decade() {
        sentence("24: A DECADE: WEALTH (what = 0), where (1), FIREWOOD (2). BAD");
        for (Supplier<MayorsChair> start : STARTS) {
            Twins.edges("decade, n", start, (x, n) -> x.decade(77, n, 0), 1, 60);
            Twins.edges("decade, what", start, (x, what) -> x.decade(77, 9, what), 0, 2);
            for (int z : new int[] {-1, 10000, -9999, 65536, Integer.MIN_VALUE, Integer.MAX_VALUE}) {
                still("decade, z " + z, start, x -> x.decade(z, 9, 0), BAD);
            }
            for (int z : new int[] {0, 1, 9998, 9999}) {
                still("decade, z " + z, start, x -> x.decade(z, 60, 0), start.get().decade(z, 60, 0));
                Check.holds("where there is a STREET", start.get().decade(z, 60, 1) < start.get().count(0));
                Check.holds("FIREWOOD in it", start.get().decade(z, 60, 2) <= 60);
            }
        }
        MayorsChair x = new MayorsChair();
        for (int z = 0; z <= 9999; z++) {
            // Of one object 512 calls at most are asked.
            x = z % 500 == 0 ? new MayorsChair() : x;
            Check.holds("z of " + z + " is taken", x.decade(z, 1, 1) >= 0);
        }
    }

    private static void keep() {
        sentence("25: KEPT: how many. FULL");
        MayorsChair x = twins();
        due("keep()", x.keep(), 1);
        due("KEPT", x.count(9), 1);
        x.pass(1);
        due("keep()", x.keep(), 2);
        due("KEPT", x.count(9), 2);
        x.pass(1);
        due("keep()", x.keep(), FULL);
        due("KEPT", x.count(9), 2);
        due("what was KEPT is not put off by it", x.back() * 100 + x.count(2), 101);
        due("nor what was KEPT first", x.back() * 100 + x.count(2), 0);
        still("of a third", Twins::crammed, MayorsChair::keep, FULL);
        x = Twins.crammed();
        x.undo();
        due("UNDONE has nothing to do with it", x.keep(), FULL);
    }

    private static void back() {
        sentence("26: As KEPT last (it is KEPT no more then): how many are left; nothing is UNDONE then");
        MayorsChair x = Twins.crammed();
        due("QUARTER", x.count(2), 8);
        due("back()", x.back(), 1);
        due("QUARTER", x.count(2), 7);
        due("UNDONE", x.count(8), 0);
        due("undo()", x.undo(), NO);
        due("MUD", x.street(1, 4) + x.street(2, 4) + x.street(3, 4) + x.street(4, 4), 0);
        due("KEPT", x.count(9), 1);
        due("back()", x.back(), 0);
        due("QUARTER", x.count(2), 0);
        due("where", x.count(3), NONE);
        due("KEPT", x.count(9), 0);
        due("letters", x.count(10), 200);
        due("SEEN", x.count(7), 6);
        due("keep() again", x.keep() * 10 + x.keep(), 12);
        x = twins();
        x.keep();
        x.pass(20);
        x.pass(20);
        due("back() of one", x.back(), 0);
        due("a QUARTER can go by and be UNDONE", x.pass(1) * 10 + x.undo(), 0);
    }

    private static void backNo() {
        sentence("26: NO");
        still("of a new object", MayorsChair::new, MayorsChair::back, NO);
        still("behind lay()", BoundsTest::twins, MayorsChair::back, NO);
        still("behind the last", () -> {
            MayorsChair x = Twins.crammed();
            x.back();
            x.back();
            x.pass(3);
            return x;
        }, MayorsChair::back, NO);
        due("what can be UNDONE stays by NO", Twins.last().back() * 10 + Twins.last().count(8), -12);
    }

    private static void count() {
        sentence("27: How many: 0 STREETS, 1 WORKS, 2 the QUARTER, .. 6 the WORK whose turn it is, 7 SEEN, 8 that can be UNDONE, "
            + "9 KEPT, 10 letters of THE TEXT. BAD");
        for (Supplier<MayorsChair> start : STARTS) {
            MayorsChair x = start.get();
            for (int what = 0; what <= 10; what++) {
                int which = what;
                still("count(" + what + ")", start, y -> y.count(which), x.count(what));
            }
            for (int what : new int[] {-1, 11, -2, 12, 256, 65536, Integer.MIN_VALUE, Integer.MAX_VALUE}) {
                still("count(" + what + ")", start, y -> y.count(what), BAD);
            }
        }
        int[] crammed = {5, 3, 8, 0, 0, 0, 2, 6, 8, 2, 200};
        int[] last = {2, 1, 999, 0, 50, 999, 0, 1, 8, 0, 18};
        for (int what : new int[] {0, 1, 2, 6, 7, 8, 9, 10}) {
            due("crammed, count(" + what + ")", Twins.crammed().count(what), crammed[what]);
        }
        for (int what = 0; what <= 10; what++) {
            due("last, count(" + what + ")", Twins.last().count(what), last[what]);
        }
        MayorsChair x = large();
        due("most STREETS and WORKS", x.count(0) * 10 + x.count(1), 66);
        due("the turn behind seven of six", x.count(6), 1);
        due("WEALTH of all, as much as there can be", passed("s0,99,0;".repeat(6) + "w40;", 400).count(4), 5994);
        due("WEALTH of all, none", passed("s0,9,9;s0,9,9;w1;", 1).count(4), 0);
    }

    private static void countWhereTheChairStands() {
        sentence("27: 3 where the CHAIR stands (NONE)");
        still("of a new object", MayorsChair::new, x -> x.count(3), NONE);
        still("behind lay()", BoundsTest::twins, x -> x.count(3), NONE);
        MayorsChair x = twins();
        x.keep();
        x.pass(2);
        due("behind two", x.count(3), 1);
        x.undo();
        due("UNDONE", x.count(3), NONE);
        x.pass(1);
        due("behind one", x.count(3), 0);
        x.back();
        due("as KEPT", x.count(3), NONE);
        x.mud(0, 3);
        due("other acts carry it nowhere", x.count(3), NONE);
        due("the last of six", laid("s0,9,0;s0,9,0;s0,9,0;s0,9,0;s0,9,0;s0,8,0;w1;").pass(1), 5);
    }

    private static void countFirewood() {
        sentence("27: 5 FIREWOOD so far (that of what is UNDONE is none; behind back() as KEPT)");
        MayorsChair x = laid("s0,0,0;s0,50,0;w1;");
        due("none", x.count(5), 0);
        x.pass(20);
        due("20", x.count(5), 20);
        x.keep();
        x.pass(1);
        due("21", x.count(5), 21);
        x.undo();
        due("that of what is UNDONE is none", x.count(5), 20);
        x.undo();
        due("that of what is UNDONE is none", x.count(5), 0);
        x.pass(3);
        due("3", x.count(5), 3);
        x.back();
        due("as KEPT", x.count(5), 20);
        x.decade(1, 60, 2);
        x.behind(60, 0, 0);
        due("not by what only would be", x.count(5), 20);
        due("999 at most", Twins.last().count(5), 999);
        due("laid anew", x.lay() * 10 + x.count(5), 20);
    }
}
