import java.util.function.Supplier;
import java.util.function.ToIntFunction;

/**
 * "What it is" and "Terms", sentence by sentence: for each that names a bound the last that is taken on either
 * side, the first that is not, and that nothing has changed behind a call that is refused. By hand.
 */
public final class TermsTest {
    private static final int BAD = -1, NO = -2, FULL = -3, NONE = -4;
    private static final String SIX_STREETS = "s0,1,1;s0,2,1;s0,3,1;s0,4,1;s0,5,1;s0,6,1;";
    private static final String SIX_WORKS = "w1;w2;w3;w4;w5;w6;";

    public static void main(String[] args) {
        lettersOfText();
        itemsBehindOneAnother();
        eachALetter();
        oneOrTwoFigures();
        partedByCommas();
        semicolonBehindTheLast();
        kindOfStreet();
        wealthOfStreet();
        useOfStreet();
        streetsAtMost();
        worthOfWork();
        worksAtMost();
        calls512();
        placeOfFault();
        laidOfTwoStreetsAndAWork();
        atFirst();
        looksAsItsWealth();
        looksProud();
        looksSly();
        looksSpending();
        looksByMud();
        usesUp();
        goesToThePoorest();
        firewood();
        turnOfWorks();
        asMuchMoreAsItIsWorth();
        noMudAndNextQuarter();
        mudPainted();
        wealthGiven();
        worksChange();
        undoneAllOfOneCall();
        undoneThoughNothingBecameAnother();
        undoneTheLastEight();
        beyondTheLast();
        behindQuarters();
        firstOfAStreet();
        evenByD();
        orderForQuarters();
        orderTheLastOfAll();
        orderTheFirstOfSeveral();
        orderTheTurnStaying();
        paintTheLeast();
        helpForG();
        helpAtMost();
        helpTheLowest();
        seenAtMost();
        seenBehindQuarters();
        seenByHowAllStands();
        kindsAsBits();
        usesAsBits();
        likelyForQuarters();
        likelyLoseTheirWay();
        likelyPoorestButOne();
        likelyLowestTerms();
        decadeNumbers();
        decadeStreetOfTheDraw();
        decadeMud();
        decadeGift();
        decadeGiftIfItCanBe();
        decadeFire();
        decadeNothingElse();
        decadeDrawOfEachQuarter();
        decadeFirewoodInIt();
        keptTwo();
        keptButTextAndSeen();
        badNone();
        firstInThisOrder();
        Check.finish("TermsTest");
    }

    private static void sentence(String text) {
        Check.sentence(text);
    }

    private static void due(String call, long got, long want) {
        Check.due(call, got, want);
    }

    private static void still(String call, Supplier<MayorsChair> start, ToIntFunction<MayorsChair> run, int want) {
        Twins.still(call, start, run, want);
    }

    private static MayorsChair laid(String text) {
        return Twins.laid(text);
    }

    private static MayorsChair passed(String text, int quarters) {
        return Twins.passed(Twins.laid(text), quarters);
    }

    private static void fault(String text, int want) {
        still("fault() of " + text, () -> Twins.written(text), MayorsChair::fault, want);
    }

    /** The item is sound alone, behind another one and ahead of one. */
    private static void sound(String item) {
        fault(item, NONE);
        fault("w7;" + item, NONE);
        fault(item + "w7;", NONE);
    }

    /** The item is faulty there, too. */
    private static void faulty(String item) {
        fault(item, 0);
        fault("w7;" + item, 3);
        fault(item + "w7;", 0);
    }

    private static int wealth(MayorsChair x, int s) {
        return x.street(s, 1);
    }

    private static int looks(MayorsChair x, int s) {
        return x.street(s, 3);
    }

    // ---- what it is: texts

    private static void lettersOfText() {
        sentence("A TEXT is letters (200 at most)");
        MayorsChair x = new MayorsChair();
        for (int i = 1; i <= 200; i++) {
            due("write of letter " + i, x.write('w'), i);
        }
        still("write of letter 201", Twins::crammed, y -> y.write('w'), FULL);
        due("write, full", x.write('w'), FULL);
        due("count(10), full", x.count(10), 200);
    }

    private static void itemsBehindOneAnother() {
        sentence("ITEMS one behind the other");
        fault("w1;w2;", NONE);
        fault("s0,1,1;w2;s0,1,1;", NONE);
        fault("w1;;w2;", 3);
        fault("w1; w2;", 3);
        fault("w1;,w2;", 3);
        fault("w1;w2; ", 6);
        fault(" w1;w2;", 0);
    }

    private static void eachALetter() {
        sentence("each a letter");
        sound("s0,0,0;");
        sound("w1;");
        for (char other : "rtvxSW;, ~0".toCharArray()) {
            faulty(other + "1;");
            faulty(other + "0,0,0;");
        }
        faulty("1;");
        faulty("ww1;");
        faulty("ss0,0,0;");
        faulty("sw1;");
    }

    private static final String[] NUMBERS = {"s#,1,1;", "s1,#,1;", "s1,1,#;", "w#;"};

    private static void oneOrTwoFigures() {
        sentence("then numbers (one or two figures)");
        for (String item : NUMBERS) {
            sound(item.replace("#", "1"));
            sound(item.replace("#", "01"));
            for (String number : new String[] {"", "001", "1 ", " 1", "-1", "+1", "/", ":", "1/", "1:", "a", "1a", "0001"}) {
                faulty(item.replace("#", number));
            }
        }
        MayorsChair x = laid("s03,07,09;s2,70,0;w08;w10;");
        due("kind 03", x.street(0, 0), 3);
        due("wealth 07", x.street(0, 1), 7);
        due("use 09", x.street(0, 2), 9);
        due("wealth 70", x.street(1, 1), 70);
        due("worth 08", x.work(0), 8);
        due("worth 10", x.work(1), 10);
    }

    private static void partedByCommas() {
        sentence("parted by ,");
        sound("s1,2,3;");
        for (String item : new String[] {"s1+2,3;", "s1-2,3;", "s1,2+3;", "s1,2-3;", "s1;2,3;", "s1,2;3;", "s1 2 3;", "s1,,2,3;",
            "s1,2,,3;", "s,1,2,3;", "s1,2,3,;", "s1,2;", "s1;", "s;", "s1,2,3,4;", "s111,2;", "s1,222;", "s12,3;", "s123;",
            "w1,;", "w1,2;", "w,1;"}) {
            faulty(item);
        }
    }

    private static void semicolonBehindTheLast() {
        sentence("a ; behind the last one");
        for (String item : new String[] {"s", "s1", "s1,", "s1,2", "s1,2,", "s1,2,3", "s01,02,03", "w", "w1", "w01"}) {
            fault(item, 0);
            fault("s0,9,9;" + item, 7);
            faulty(item + ":");
            faulty(item + "<");
        }
        MayorsChair x = Twins.written("s0,1,1;s0,1,1;w1;");
        x.wipe();
        Twins.write(x, "s0,1,1;s0,1,1;w1");
        due("fault(), the last ; being wiped away", x.fault(), 14);
        due("lay(), the last ; being wiped away", x.lay(), NO);
        x.wipe();
        Twins.write(x, "s0,1,1;s0,1,1;w");
        due("fault(), the last number being wiped away", x.fault(), 14);
        x.wipe();
        Twins.write(x, "s0,1,1;s0,1,");
        due("fault(), the last number being wiped away", x.fault(), 7);
        due("lay() without the last ;", Twins.written("s0,1,1;s0,1,1;w1").lay(), NO);
        due("lay() with it", Twins.written("s0,1,1;s0,1,1;w1;").lay(), 2);
    }

    private static void kindOfStreet() {
        sentence("a STREET of KIND K (0 PLAIN, 1 PROUD, 2 SLY, 3 SPENDING)");
        for (int kind = 0; kind <= 3; kind++) {
            sound("s" + kind + ",1,1;");
            sound("s0" + kind + ",1,1;");
            due("KIND", laid("s" + kind + ",1,1;s0,1,1;w1;").street(0, 0), kind);
        }
        for (int kind = 4; kind <= 99; kind++) {
            fault("s" + kind + ",1,1;", 0);
        }
        due("looks of each kind", looks(laid("s0,9,0;s0,1,1;w1;"), 0), 9);
        due("looks of each kind", looks(laid("s1,9,0;s0,1,1;w1;"), 0), 14);
        due("looks of each kind", looks(laid("s2,9,0;s0,1,1;w1;"), 0), 4);
        due("looks of each kind", looks(laid("s3,8,0;s0,1,1;w1;"), 0), 4);
    }

    private static void wealthOfStreet() {
        sentence("of WEALTH W (0 to 99)");
        for (int w = 0; w <= 99; w++) {
            fault("s0," + w + ",1;", NONE);
        }
        due("WEALTH 0", wealth(laid("s0,0,1;s0,1,1;w1;"), 0), 0);
        due("WEALTH 00", wealth(laid("s0,00,1;s0,1,1;w1;"), 0), 0);
        due("WEALTH 99", wealth(laid("s0,99,1;s0,1,1;w1;"), 0), 99);
        faulty("s0,100,1;");
        faulty("s0,-1,1;");
        faulty("s0,099,1;");
    }

    private static void useOfStreet() {
        sentence("that USES U (0 to 9)");
        for (int use = 0; use <= 9; use++) {
            sound("s0,1," + use + ";");
            sound("s0,1,0" + use + ";");
            due("USES", laid("s0,1," + use + ";s0,1,1;w1;").street(0, 2), use);
        }
        for (int use = 10; use <= 99; use++) {
            fault("s0,1," + use + ";", 0);
        }
    }

    private static void streetsAtMost() {
        sentence("that USES U (0 to 9) a QUARTER; 6 at most, 0, 1, ..");
        fault(SIX_STREETS, NONE);
        fault(SIX_STREETS + "s0,7,1;", 42);
        fault(SIX_STREETS + SIX_WORKS + "s0,7,1;", 60);
        fault("w1;" + SIX_STREETS + "w1;s0,7,1;w1;", 48);
        due("lay() of six", Twins.written(SIX_STREETS + "w1;").lay(), 6);
        still("lay() of seven", () -> Twins.written("s0,7,1;" + SIX_STREETS + "w1;"), MayorsChair::lay, NO);
        MayorsChair x = laid("w1;s0,5,0;w2;s0,6,0;w3;s0,7,0;");
        for (int s = 0; s < 3; s++) {
            due("WEALTH of the STREETS in a row", wealth(x, s), 5 + s);
        }
        due("no fourth", x.street(3, 1), BAD);
    }

    private static void worthOfWork() {
        sentence("a WORK worth V (1 to 40)");
        for (int v = 1; v <= 40; v++) {
            fault("w" + v + ";", NONE);
            due("worth", laid("s0,1,1;s0,1,1;w" + v + ";").work(0), v);
        }
        sound("w01;");
        faulty("w0;");
        faulty("w00;");
        for (int v = 41; v <= 99; v++) {
            fault("w" + v + ";", 0);
        }
        faulty("w040;");
        faulty("w100;");
    }

    private static void worksAtMost() {
        sentence("wV a WORK worth V (1 to 40); 6 at most, 0, 1, ..");
        fault(SIX_WORKS, NONE);
        fault(SIX_WORKS + "w7;", 18);
        fault(SIX_STREETS + SIX_WORKS + "w7;", 60);
        fault("s0,1,1;" + SIX_WORKS + "s0,1,1;w7;s0,1,1;", 32);
        due("lay() of six", Twins.written("s0,1,1;s0,1,1;" + SIX_WORKS).lay(), 2);
        still("lay() of seven", () -> Twins.written("s0,1,1;s0,1,1;w7;" + SIX_WORKS), MayorsChair::lay, NO);
        MayorsChair x = laid("w4;s0,5,0;w5;s0,6,0;w6;");
        for (int k = 0; k < 3; k++) {
            due("the WORKS in a row", x.work(k), 4 + k);
        }
        due("no fourth", x.work(3), BAD);
    }

    private static void calls512() {
        sentence("An object is used for at most 512 calls after it has been made");
        MayorsChair x = new MayorsChair();
        for (int call = 1; call <= 510; call++) {
            due("mud, call " + call, x.mud(0, call % 2), (call + 1) % 2);
        }
        due("undo, call 511", x.undo(), 7);
        due("street, call 512", x.street(0, 4), 1);
    }

    // ---- terms: faults, laid

    private static void placeOfFault() {
        sentence("the place (from 0 on) of the first letter of the first ITEM that is not so");
        fault("", NONE);
        fault("q", 0);
        fault("w1;q", 3);
        fault("w1;w0;w0;", 3);
        fault("w1;w0;q", 3);
        fault("w1;s0,1,99;", 3);
        String longest = "s00,00,00;".repeat(6) + "w01;".repeat(6);
        fault(longest, NONE);
        fault(longest + "s", 84);
        fault(longest + "w1;" + "w".repeat(113), 84);
        fault("w1;" + "w".repeat(197), 3);
        MayorsChair x = Twins.written("w1;q");
        due("fault()", x.fault(), 3);
        due("fault() again", x.fault(), 3);
        x.write(';');
        due("fault(), a letter more", x.fault(), 3);
    }

    private static void laidOfTwoStreetsAndAWork() {
        sentence("a TEXT without FAULT, of two STREETS and a WORK at least (NO else;");
        due("two and one", Twins.written("s0,1,1;s0,1,1;w1;").lay(), 2);
        due("one ahead of two", Twins.written("w1;s0,1,1;s0,1,1;").lay(), 2);
        due("six and six", Twins.written(SIX_STREETS + SIX_WORKS).lay(), 6);
        for (String text : new String[] {"", "w1;", "s0,1,1;", "s0,1,1;w1;", "s0,1,1;" + SIX_WORKS, "s0,1,1;s0,1,1;", SIX_STREETS,
            SIX_WORKS, "s0,1,1;s0,1,1;w0;", "s0,1,1;s0,1,1;w1;q", "q" + "s0,1,1;s0,1,1;w1;", "s0,1,1;s0,1,1;w1;w1"}) {
            still("lay() of " + text, () -> changed(text), MayorsChair::lay, NO);
        }
    }

    /** Not as at first, with another text than that of what is laid. */
    private static MayorsChair changed(String text) {
        MayorsChair x = Twins.busy();
        x.wipe();
        Twins.write(x, text);
        return x;
    }

    private static void atFirst() {
        sentence("at first s0,20,2;s1,8,1;s2,14,3;s3,10,1;s0,0,0;w9;w4;w15;");
        MayorsChair same = laid("s0,20,2;s1,8,1;s2,14,3;s3,10,1;s0,0,0;w9;w4;w15;");
        MayorsChair x = new MayorsChair();
        for (int s = 0; s <= 5; s++) {
            for (int what = 0; what <= 5; what++) {
                due("street(" + s + ", " + what + ")", x.street(s, what), same.street(s, what));
            }
        }
        for (int k = 0; k <= 3; k++) {
            due("work(" + k + ")", x.work(k), same.work(k));
        }
        due("STREETS", x.count(0), 5);
        due("WORKS", x.count(1), 3);
    }

    // ---- terms: how poor a street looks

    private static void looksAsItsWealth() {
        sentence("A STREET LOOKS as poor as its WEALTH");
        MayorsChair x = laid("s0,0,0;s0,99,0;w40;");
        due("of 0", looks(x, 0), 0);
        due("of 99", looks(x, 1), 99);
        due("of 999", looks(passed("s0,99,0;s0,99,0;w40;", 60), 0), 999);
    }

    private static void looksProud() {
        sentence("a PROUD one as if it had 5 more");
        MayorsChair x = laid("s1,0,0;s1,99,0;w40;");
        due("of 0", looks(x, 0), 5);
        due("of 99", looks(x, 1), 104);
        x = passed("s1,99,0;s0,99,0;w40;", 100);
        due("WEALTH", wealth(x, 0), 999);
        due("of 999", looks(x, 0), 1004);
    }

    private static void looksSly() {
        sentence("a SLY one as if it had 5 less (0 at least)");
        MayorsChair x = laid("s2,0,0;s2,4,0;s2,5,0;s2,6,0;s2,99,0;w40;");
        int[] want = {0, 0, 0, 1, 94};
        for (int s = 0; s < 5; s++) {
            due("of STREET " + s, looks(x, s), want[s]);
        }
        due("none the poorer for looking so: of several the lowest", x.pass(1), 0);
        x = passed("s2,99,0;s0,99,0;w40;", 100);
        due("of 999", looks(x, 0), 994);
    }

    private static void looksSpending() {
        sentence("a SPENDING one as if it had half, cut");
        MayorsChair x = laid("s3,0,0;s3,1,0;s3,2,0;s3,3,0;s3,98,0;s3,99,0;w40;");
        int[] want = {0, 0, 1, 1, 49, 49};
        for (int s = 0; s < 6; s++) {
            due("of STREET " + s, looks(x, s), want[s]);
        }
        x = passed("s3,99,0;s0,99,0;w40;", 200);
        due("WEALTH", wealth(x, 0), 999);
        due("of 999", looks(x, 0), 499);
    }

    private static void looksByMud() {
        sentence("then as if it had as much less as there is MUD on its doors (0 at least)");
        String[] towns = {"s0,#,0;s0,1,0;w1;", "s1,#,0;s0,1,0;w1;", "s2,#,0;s0,1,0;w1;", "s3,#,0;s0,1,0;w1;"};
        int[] nothingLeft = {40, 35, 45, 81};
        for (int kind = 0; kind < 4; kind++) {
            for (int less = -1; less <= 1; less++) {
                MayorsChair x = laid(towns[kind].replace("#", "" + (nothingLeft[kind] + less)));
                x.mud(0, 40);
                due("KIND " + kind + ", less " + less, looks(x, 0), Math.max(less, 0));
            }
        }
        MayorsChair x = laid("s3,9,0;s2,3,0;w1;");
        x.mud(0, 3);
        x.mud(1, 1);
        due("half first, then the MUD", looks(x, 0), 1);
        due("0 at least, then the MUD", looks(x, 1), 0);
        x.mud(0, 0);
        due("no MUD", looks(x, 0), 4);
    }

    // ---- terms: a quarter

    private static void usesUp() {
        sentence("In a QUARTER each STREET has as much less as it USES (0 at least)");
        MayorsChair x = laid("s0,8,9;s0,9,9;s0,10,9;s0,99,9;s0,0,9;s0,77,0;w40;");
        due("where the CHAIR stands", x.pass(1), 0);
        int[] want = {0, 0, 1, 90, 0, 77};
        for (int s = 0; s < 6; s++) {
            due("WEALTH of " + s, wealth(x, s), want[s]);
        }
        x.pass(20);
        due("still 0", wealth(x, 0) + wealth(x, 1) + wealth(x, 2) + wealth(x, 3) + wealth(x, 4), 0);
        due("nothing used", wealth(x, 5), 77);
    }

    private static void goesToThePoorest() {
        sentence("Then the CHAIR goes to the one that LOOKS poorest, of several the lowest");
        due("the poorest last", laid("s0,9,0;s0,8,0;s0,7,0;s0,6,0;s0,5,0;s0,4,0;w1;").pass(1), 5);
        due("the poorest first", laid("s0,4,0;s0,5,0;s0,6,0;s0,7,0;s0,8,0;s0,9,0;w1;").pass(1), 0);
        due("six alike", laid("s0,5,0;s0,5,0;s0,5,0;s0,5,0;s0,5,0;s0,5,0;w1;").pass(1), 0);
        due("two alike behind another one", laid("s0,6,0;s0,5,0;s0,5,0;w1;").pass(1), 1);
        due("one more is not alike", laid("s0,6,0;s0,5,0;s0,4,0;w1;").pass(1), 2);
        due("alike in looks: PLAIN 5, PROUD 0", laid("s0,5,0;s1,0,0;w1;").pass(1), 0);
        due("alike in looks: PROUD 0, PLAIN 5", laid("s1,0,0;s0,5,0;w1;").pass(1), 0);
        due("alike in looks: SLY 10, SPENDING 11", laid("s2,10,0;s3,11,0;w1;").pass(1), 0);
        due("alike in looks: SPENDING 11, SLY 10", laid("s3,11,0;s2,10,0;w1;").pass(1), 0);
        due("not alike: SPENDING 12, SLY 10", laid("s3,12,0;s2,10,0;w1;").pass(1), 1);
        due("behind what is used up", laid("s0,5,0;s0,9,5;w1;").pass(1), 1);
        due("alike behind what is used up", laid("s0,5,0;s0,9,4;w1;").pass(1), 0);
        MayorsChair x = laid("s0,5,0;s0,9,0;w1;");
        due("where it stands, it can stay", x.pass(1) + x.pass(1), 0);
        x.mud(1, 2);
        due("alike by MUD", x.pass(1), 0);
        x.mud(1, 2);
        x.undo();
        x.undo();
        x.mud(1, 3);
        due("poorer by MUD", x.pass(1), 1);
    }

    private static void firewood() {
        sentence("Has that one no WEALTH at all, the CHAIR is FIREWOOD there (it stands there all the same): no WORK is done");
        MayorsChair x = laid("s0,0,0;s0,9,0;w7;");
        due("pass(1) to one of 0", x.pass(1), 0);
        due("FIREWOOD", x.count(5), 1);
        due("it stands there", x.count(3), 0);
        due("how often", x.street(0, 5), 1);
        due("no WORK", wealth(x, 0), 0);
        x = laid("s0,1,0;s0,9,0;w7;");
        due("pass(1) to one of 1", x.pass(1), 0);
        due("no FIREWOOD", x.count(5), 0);
        due("a WORK", wealth(x, 0), 8);
        x = laid("s0,1,1;s0,9,0;w7;");
        x.pass(1);
        due("its last 1 used up", x.count(5) * 100 + wealth(x, 0), 100);
        x = laid("s2,5,0;s3,1,0;w7;");
        due("one of 5 that LOOKS as 0", x.pass(1), 0);
        due("and one of 1", x.pass(1), 1);
        due("no FIREWOOD by looks", x.count(5), 0);
        x = laid("s0,40,0;s0,39,0;w7;");
        x.mud(0, 40);
        due("one of 40 that LOOKS as 0", x.pass(1), 0);
        due("no FIREWOOD by MUD", x.count(5) * 100 + wealth(x, 0), 47);
        x = laid("s1,0,0;s0,6,0;w7;");
        due("a PROUD one of 0 LOOKS as 5", x.pass(1), 0);
        due("FIREWOOD there", x.count(5) * 100 + wealth(x, 0), 100);
        x = laid("s0,0,9;s0,0,0;w7;");
        x.pass(20);
        due("20 times", x.count(5) * 100 + x.street(0, 5), 2020);
        x = laid("s3,5,0;s0,9,0;w1;");
        x.pass(1);
        due("a WORK worth nothing there is no FIREWOOD", x.count(5) * 100 + wealth(x, 0), 5);
    }

    private static void turnOfWorks() {
        sentence("the WORK whose turn it is (0 in the first QUARTER, in each further one the next, also behind FIREWOOD; "
            + "behind the last one 0)");
        for (int works = 1; works <= 6; works++) {
            MayorsChair x = laid("s0,1,0;s0,99,0;" + SIX_WORKS.substring(0, 3 * works));
            MayorsChair wood = laid("s0,0,0;s0,99,0;" + SIX_WORKS.substring(0, 3 * works));
            due("the first turn", x.count(6), 0);
            int wealth = 1;
            for (int quarter = 0; quarter < 13; quarter++) {
                wealth += quarter % works + 1;
                due("pass(1)", x.pass(1), 0);
                due(works + " WORKS, WEALTH behind QUARTER " + quarter, wealth(x, 0), wealth);
                due(works + " WORKS, the next turn", x.count(6), (quarter + 1) % works);
                wood.pass(1);
                due(works + " WORKS, the next turn behind FIREWOOD", wood.count(6), (quarter + 1) % works);
            }
            wood.give(1, 0, 1);
            wood.pass(1);
            due(works + " WORKS, the WORK behind 13 times FIREWOOD", wealth(wood, 0), 2 + 13 % works);
        }
        MayorsChair x = Twins.last();
        due("the turn of one WORK behind 999", x.count(6), 0);
        x = passed("s0,0,0;s0,1,0;w1;w2;w3;w4;", 999);
        due("the turn of four WORKS behind 999", x.count(6), 3);
    }

    private static void asMuchMoreAsItIsWorth() {
        sentence("it has as much more as that is worth, a SPENDING one half of that, cut (999 at most)");
        int[][] halves = {{1, 0}, {2, 1}, {3, 1}, {39, 19}, {40, 20}};
        for (int[] half : halves) {
            for (int kind = 0; kind < 4; kind++) {
                MayorsChair x = laid("s" + kind + ",10,0;s0,99,0;w" + half[0] + ";");
                due("pass(1)", x.pass(1), 0);
                due("KIND " + kind + ", worth " + half[0], wealth(x, 0), 10 + (kind == 3 ? half[1] : half[0]));
            }
        }
        MayorsChair x = passed("s0,79,0;s0,99,0;w40;", 44);
        due("two of 22 WORKS each", wealth(x, 0) * 1000 + wealth(x, 1), 959979);
        x.pass(1);
        due("959 and 40", wealth(x, 0), 999);
        x = passed("s0,80,0;s0,99,0;w40;", 45);
        due("960 and 40", wealth(x, 0), 999);
        x.pass(1);
        due("979 and 40", wealth(x, 1), 999);
        x.pass(1);
        due("999 and 40", wealth(x, 0) * 1000 + wealth(x, 1), 999999);
        x = passed("s0,98,0;s0,97,0;w2;", 900);
        due("two of 450 WORKS each", wealth(x, 0) * 1000 + wealth(x, 1), 998997);
        x.pass(1);
        due("997 and 2", wealth(x, 1), 999);
        x.pass(1);
        due("998 and 2", wealth(x, 0), 999);
        // A SPENDING one has 20 each time, so that it comes to 979, 999 from 99, and to 990, 1010 from 90.
        due("SPENDING, 979 and 20", wealth(passed("s3,99,0;s0,99,0;w40;", 200), 0), 999);
        due("SPENDING, 990 and 20", wealth(passed("s3,90,0;s0,99,0;w40;", 200), 0), 999);
    }

    private static void noMudAndNextQuarter() {
        sentence("In both cases there is then no MUD on that one's doors any more, and it is the next QUARTER");
        MayorsChair x = laid("s0,0,0;s0,50,0;w1;");
        x.mud(0, 40);
        x.mud(1, 1);
        due("FIREWOOD", x.pass(1), 0);
        due("no MUD there", x.street(0, 4), 0);
        due("MUD elsewhere stays", x.street(1, 4), 1);
        due("the next QUARTER", x.count(2), 1);
        x = laid("s0,9,0;s0,50,0;w1;");
        x.mud(0, 40);
        x.mud(1, 40);
        due("a WORK", x.pass(1), 0);
        due("no MUD there", x.street(0, 4), 0);
        due("MUD elsewhere stays", x.street(1, 4), 40);
        due("the next QUARTER", x.count(2), 1);
        due("the next goes by", x.pass(1), 0);
        due("10 is as poor as 50 under MUD of 40: the lowest", wealth(x, 0), 11);
        due("MUD elsewhere stays", x.street(1, 4), 40);
        due("then the other one", x.pass(1), 1);
        due("no MUD there", x.street(1, 4), 0);
    }

    // ---- terms: acts

    private static void mudPainted() {
        sentence("MUD may be painted on a STREET's doors (0 to 40, in place of what is)");
        MayorsChair x = laid("s0,50,0;s0,60,0;w1;");
        due("40", x.mud(0, 40), 0);
        due("looks", looks(x, 0), 10);
        due("1 in place of 40", x.mud(0, 1), 40);
        due("looks", looks(x, 0), 49);
        due("0 in place of 1", x.mud(0, 0), 1);
        due("looks", looks(x, 0), 50);
        still("41", Twins::busy, y -> y.mud(0, 41), BAD);
        still("-1", Twins::busy, y -> y.mud(0, -1), BAD);
    }

    private static void wealthGiven() {
        sentence("WEALTH may be GIVEN by one STREET to another one that has less than 960");
        Supplier<MayorsChair> of959 = () -> passed("s0,99,0;s0,79,0;w40;", 44);
        due("it has 959", wealth(of959.get(), 1), 959);
        due("give(0, 1, 1) to 959", of959.get().give(0, 1, 1), 978);
        due("give(0, 1, 40) to 959", of959.get().give(0, 1, 40), 939);
        MayorsChair x = of959.get();
        x.give(0, 1, 40);
        due("as much as there can be", wealth(x, 1), 999);
        Supplier<MayorsChair> of960 = () -> passed("s0,99,0;s0,80,0;w40;", 44);
        due("it has 960", wealth(of960.get(), 1), 960);
        still("give(0, 1, 1) to 960", of960, y -> y.give(0, 1, 1), NO);
        still("give(0, 1, 40) to 960", of960, y -> y.give(0, 1, 40), NO);
        still("give(1, 0, 1) to 979", of960, y -> y.give(1, 0, 1), NO);
        due("LOOKS have nothing to do with it: 979, PROUD, to 944, PROUD", passed("s1,99,0;s1,64,0;w40;", 44).give(0, 1, 1), 978);
        x = laid("s1,9,0;s3,9,0;w1;");
        x.mud(1, 40);
        x.give(0, 1, 9);
        due("all of it, in full", wealth(x, 0) * 100 + wealth(x, 1), 18);
        due("MUD stays", x.street(1, 4), 40);
    }

    private static void worksChange() {
        sentence("Two WORKS may change places");
        MayorsChair x = laid("s0,1,0;s0,99,0;" + SIX_WORKS);
        x.change(0, 5);
        int[] want = {6, 2, 3, 4, 5, 1};
        for (int k = 0; k < 6; k++) {
            due("work(" + k + ")", x.work(k), want[k]);
        }
        x.pass(1);
        due("that WORK is done", wealth(x, 0), 7);
        x.change(5, 0);
        due("and back", x.work(0) * 10 + x.work(5), 16);
        still("one alone", () -> laid("s0,1,0;s0,99,0;w3;"), y -> y.change(0, 0), BAD);
        still("one that is none", () -> laid("s0,1,0;s0,99,0;w3;"), y -> y.change(0, 1), BAD);
    }

    private static void undoneAllOfOneCall() {
        sentence("UNDONE is the latest of these, of QUARTERS (all of one call at once;");
        MayorsChair x = laid("s0,0,0;s0,50,3;w1;w2;w3;");
        x.mud(1, 5);
        x.pass(1);
        x.pass(20);
        due("QUARTER", x.count(2), 21);
        due("undo() of 20", x.undo(), 2);
        due("QUARTER", x.count(2), 1);
        due("the turn", x.count(6), 1);
        due("WEALTH", wealth(x, 1), 47);
        due("FIREWOOD", x.count(5), 1);
        due("how often", x.street(0, 5), 1);
        due("where", x.count(3), 0);
        due("undo() of 1", x.undo(), 1);
        due("QUARTER", x.count(2), 0);
        due("where", x.count(3), NONE);
        due("MUD is still there", x.street(1, 4), 5);
        due("undo() of MUD", x.undo(), 0);
        still("undo() of nothing", () -> laid("s0,0,0;s0,50,3;w1;"), MayorsChair::undo, NO);
    }

    private static void undoneThoughNothingBecameAnother() {
        sentence("such by which nothing becomes another, too;");
        MayorsChair x = laid("s0,1,0;s0,9,0;w5;w5;");
        due("change(0, 1)", x.change(0, 1), 5);
        due("can be UNDONE", x.count(8), 1);
        due("change(1, 0)", x.change(1, 0), 5);
        due("undo()", x.undo(), 1);
        due("undo()", x.undo(), 0);
        due("undo()", x.undo(), NO);
        x = laid("s0,9,0;s0,9,0;w5;");
        x.give(0, 1, 1);
        x.give(1, 0, 1);
        due("there and back", x.count(8), 2);
        x.mud(0, 0);
        due("what is refused cannot be UNDONE", x.count(8), 2);
    }

    private static void undoneTheLastEight() {
        sentence("the last 8 can be)");
        for (int acts = 0; acts <= 17; acts++) {
            MayorsChair x = laid("s0,1,0;s0,99,0;w1;");
            for (int m = 1; m <= acts; m++) {
                x.mud(1, m);
            }
            due("behind " + acts + " acts", x.count(8), Math.min(acts, 8));
            for (int left = Math.min(acts, 8) - 1; left >= 0; left--) {
                due("undo()", x.undo(), left);
            }
            due("undo() beyond", x.undo(), NO);
            due("MUD then", x.street(1, 4), Math.max(acts - 8, 0));
        }
        still("undo() behind all", () -> {
            MayorsChair x = Twins.crammed();
            for (int i = 0; i < 8; i++) {
                x.undo();
            }
            return x;
        }, MayorsChair::undo, NO);
        MayorsChair x = Twins.crammed();
        x.undo();
        x.mud(0, 39);
        due("one UNDONE, one done", x.count(8), 8);
    }

    // ---- terms: what comes

    private static void beyondTheLast() {
        sentence("From now on, nothing else being done (beyond the last that may go by, too)");
        MayorsChair x = Twins.last();
        due("QUARTER", x.count(2), 999);
        due("pass(1)", x.pass(1), NO);
        due("behind(60, 0, 1)", x.behind(60, 0, 1), 1059);
        due("behind(60, 1, 0)", x.behind(60, 1, 0), 50);
        due("first(0)", x.first(0), 1);
        due("first(1)", x.first(1), NONE);
        due("even(50)", x.even(50), 0);
        due("even(49)", x.even(49), NONE);
        due("order(40, -1)", x.order(40, -1), 0);
        due("order(40, 0)", x.order(40, 0), 0);
        due("paint(0)", x.paint(0), 0);
        due("paint(1)", x.paint(1), NONE);
        // 40 and 50, a work worth 1 forty times: 65 each.
        due("help(40, 40, 0)", x.help(40, 40, 0), 0);
        due("help(40, 40, 1)", x.help(40, 40, 1), 65);
        due("kinds(0)", x.kinds(0), 15);
        due("uses(1): 1 and more are used up in 40, but of several the lowest", x.uses(1), 1023);
        due("likely(0, 8, 3, 0)", x.likely(0, 8, 3, 0), 7);
        due("decade(0, 1, 1)", x.decade(0, 1, 1), 0);
        due("decade(0, 1, 2)", x.decade(0, 1, 2), 1);
        due("QUARTER still", x.count(2), 999);
    }

    private static void behindQuarters() {
        sentence("BEHIND n (0 to 60) QUARTERS: WEALTH of a STREET; how often the CHAIR stood there in all");
        MayorsChair x = laid("s0,5,0;s0,5,0;w10;");
        int[][] want = {{0, 5, 5, 0, 0}, {1, 15, 5, 1, 0}, {2, 15, 15, 1, 1}, {59, 305, 295, 30, 29}, {60, 305, 305, 30, 30}};
        for (int[] row : want) {
            due("behind(" + row[0] + ", 0, 0)", x.behind(row[0], 0, 0), row[1]);
            due("behind(" + row[0] + ", 1, 0)", x.behind(row[0], 1, 0), row[2]);
            due("behind(" + row[0] + ", 0, 1)", x.behind(row[0], 0, 1), row[3]);
            due("behind(" + row[0] + ", 1, 1)", x.behind(row[0], 1, 1), row[4]);
        }
        x.pass(3);
        due("in all: behind(0, 0, 1)", x.behind(0, 0, 1), 2);
        due("in all: behind(60, 0, 1)", x.behind(60, 0, 1), 32);
        still("n of 61", Twins::busy, y -> y.behind(61, 0, 0), BAD);
        still("n of -1", Twins::busy, y -> y.behind(-1, 0, 0), BAD);
    }

    private static void firstOfAStreet() {
        sentence("FIRST of a STREET: behind how many QUARTERS (1 to 60) the CHAIR stands there first; none");
        due("behind 1", laid("s0,5,0;s0,6,0;w1;").first(0), 1);
        for (int behind = 2; behind <= 60; behind++) {
            due("behind " + behind, laid("s0,1,0;s0," + (behind - 1) + ",0;w1;").first(1), behind);
        }
        still("behind 61: none", () -> laid("s0,1,0;s0,60,0;w1;"), x -> x.first(1), NONE);
        still("never: none", () -> laid("s0,0,0;s0,60,0;w1;"), x -> x.first(1), NONE);
        MayorsChair x = laid("s0,1,0;s0,60,0;w1;");
        x.pass(1);
        due("behind 60 then", x.first(1), 60);
        x.pass(1);
        due("behind 59 then", x.first(1), 59);
        x = laid("s0,5,0;s0,5,0;w1;");
        x.pass(1);
        due("where it stands now counts not", x.first(0), 2);
    }

    private static void evenByD() {
        sentence("EVEN by d (0 to 99): behind how many QUARTERS (0 to 60) the richest STREET has no more than d more "
            + "than the poorest; none");
        Supplier<MayorsChair> apart = () -> laid("s0,0,0;s0,99,0;w1;");
        due("even(99) of 99 apart", apart.get().even(99), 0);
        still("even(98) of 99 apart", apart, x -> x.even(98), NONE);
        due("even(0) of none apart", laid("s0,7,0;s0,7,0;w1;").even(0), 0);
        due("even(0) of 1 apart", laid("s0,7,0;s0,8,0;w1;").even(0), 1);
        due("even(1) of 1 apart", laid("s0,7,0;s0,8,0;w1;").even(1), 0);
        Supplier<MayorsChair> sixty = () -> laid("s0,1,0;s0,61,0;w1;");
        due("even(0) behind 60", sixty.get().even(0), 60);
        due("even(1) behind 59", sixty.get().even(1), 59);
        due("even(59) behind 1", sixty.get().even(59), 1);
        due("even(60) behind 0", sixty.get().even(60), 0);
        still("even(0) behind 61", () -> laid("s0,1,0;s0,62,0;w1;"), x -> x.even(0), NONE);
        due("even(1) behind 60", laid("s0,1,0;s0,62,0;w1;").even(1), 60);
        still("even(100)", Twins::busy, x -> x.even(100), BAD);
        still("even(-1)", Twins::busy, x -> x.even(-1), BAD);
        due("the richest and the poorest anywhere", laid("s0,5,0;s0,9,0;s0,2,0;s0,6,0;w1;").even(7), 0);
        due("the richest the first", laid("s0,9,0;s0,2,0;s0,3,0;w1;").even(6), 1);
        due("the richest the last", laid("s0,3,0;s0,2,0;s0,9,0;w1;").even(6), 1);
        due("the poorest the first", laid("s0,2,0;s0,3,0;s0,9,0;w1;").even(6), 1);
        due("the richest and the poorest anywhere", laid("s0,5,0;s0,2,0;s0,9,0;s0,6,0;w1;").even(6), 1);
    }

    // ---- terms: what is best

    private static void orderForQuarters() {
        sentence("ORDER for n (1 to 40) QUARTERS: of all orders of the WORKS");
        Supplier<MayorsChair> alike = () -> laid("s0,10,0;s0,10,0;w1;w1;");
        due("order(1, -1)", alike.get().order(1, -1), 10);
        due("order(2, -1)", alike.get().order(2, -1), 11);
        due("order(39, -1)", alike.get().order(39, -1), 29);
        due("order(40, -1)", alike.get().order(40, -1), 30);
        still("order(0, -1)", alike, x -> x.order(0, -1), BAD);
        still("order(41, -1)", alike, x -> x.order(41, -1), BAD);
        due("the poorest has 0", laid("s0,0,0;s0,10,0;w1;w2;").order(40, -1), 0);
        due("one WORK", laid("s0,1,0;s0,10,0;w9;").order(1, -1), 10);
        // Six works: 1 and the largest one.
        for (int largest = 0; largest < 6; largest++) {
            StringBuilder works = new StringBuilder();
            for (int k = 0; k < 6; k++) {
                works.append(k == largest ? "w40;" : "w" + (k + 1) + ";");
            }
            MayorsChair x = laid("s0,1,0;s0,99,0;" + works);
            due("the largest first: how much", x.order(1, -1), 41);
            due("the largest first: which", x.order(1, 0), largest);
            for (int k = 1; k < 6; k++) {
                due("the others as they are", x.order(1, k), k <= largest ? k - 1 : k);
            }
        }
    }

    private static void orderTheLastOfAll() {
        sentence("of all orders of the WORKS (the turn staying) that by which the poorest STREET has most behind them");
        String[] towns = {"s0,6,1;s0,14,0;w1;w14;", "s0,7,3;s0,6,3;s0,19,1;w1;w13;w20;", "s0,18,2;s0,8,1;w19;w9;w7;w11;",
            "s0,29,4;s0,26,2;s0,23,4;w5;w2;w4;w6;w8;", "s0,22,1;s0,11,1;s0,18,0;w20;w19;w14;w15;w13;w16;"};
        for (int i = 0; i < towns.length; i++) {
            int works = i + 2;
            int n = works == 2 ? 2 : works == 3 ? 3 : works + 1;
            int first = towns[i].indexOf('w');
            String[] items = towns[i].substring(first).split("(?<=;)");
            String best = bestByLaying(towns[i].substring(0, first), items, "", "", n);
            MayorsChair x = laid(towns[i]);
            for (int k = 0; k < works; k++) {
                due("the last order is the best, the WORK put at " + k, x.order(n, k), works - 1 - k);
                due("as by laying each order", x.order(n, k), best.charAt(k) - '0');
            }
            due("how much, as by laying each order", x.order(n, -1), muchOf(best));
        }
    }

    /** The first best order of the works, as numbers in a row, and what the poorest has by it: each is laid and looked at. */
    private static String bestByLaying(String streets, String[] works, String order, String put, int n) {
        if (order.length() == works.length) {
            MayorsChair x = laid(streets + put);
            int poorest = 999;
            for (int s = 0; s < x.count(0); s++) {
                poorest = Math.min(poorest, x.behind(n, s, 0));
            }
            return order + " " + poorest;
        }
        String best = "";
        for (int k = 0; k < works.length; k++) {
            if (order.indexOf('0' + k) < 0) {
                String one = bestByLaying(streets, works, order + k, put + works[k], n);
                if (best.isEmpty() || muchOf(one) > muchOf(best)) {
                    best = one;
                }
            }
        }
        return best;
    }

    private static int muchOf(String best) {
        return Integer.parseInt(best.substring(best.indexOf(' ') + 1));
    }

    private static void orderTheFirstOfSeveral() {
        sentence("of several the first (by which WORK is first, the lowest ahead, then second, ..)");
        MayorsChair x = laid("s0,0,0;s0,9,0;w6;w5;w4;w3;w2;w1;");
        for (int k = 0; k < 6; k++) {
            due("all alike: the WORK put at " + k, x.order(40, k), k);
        }
        x = laid("s0,1,0;s0,99,0;w3;w9;w9;");
        due("two alike: the lower", x.order(1, 0) * 100 + x.order(1, 1) * 10 + x.order(1, 2), 102);
        x.change(0, 2);
        due("as they are put now", x.order(1, 0) * 100 + x.order(1, 1) * 10 + x.order(1, 2), 12);
        x = laid("s0,1,0;s0,99,0;w3;w9;w8;w7;");
        due("of two QUARTERS", x.order(2, -1), 18);
        due("17 by 1, 2 and 2, 1: 1 ahead", x.order(2, 0) * 1000 + x.order(2, 1) * 100 + x.order(2, 2) * 10 + x.order(2, 3), 1203);
    }

    private static void orderTheTurnStaying() {
        sentence("(the turn staying)");
        MayorsChair x = laid("s0,1,0;s0,99,0;w3;w9;w8;");
        for (int turn = 0; turn < 7; turn++) {
            due("the turn", x.count(6), turn % 3);
            due("the 9 where the turn is", x.order(1, turn % 3), 1);
            due("how much", x.order(1, -1), wealth(x, 0) + 9);
            x.pass(1);
        }
    }

    private static void paintTheLeast() {
        sentence("PAINT of a STREET: the least MUD (0 to 40, in place of what is) by which the CHAIR goes there in the next QUARTER; none");
        due("0", laid("s0,5,0;s0,5,0;w1;").paint(0), 0);
        due("1, of several the lowest", laid("s0,5,0;s0,5,0;w1;").paint(1), 1);
        due("39", laid("s0,44,0;s0,5,0;w1;").paint(0), 39);
        due("40", laid("s0,45,0;s0,5,0;w1;").paint(0), 40);
        still("41: none", () -> laid("s0,46,0;s0,5,0;w1;"), x -> x.paint(0), NONE);
        due("40 behind", laid("s0,5,0;s0,44,0;w1;").paint(1), 40);
        still("41 behind: none", () -> laid("s0,5,0;s0,45,0;w1;"), x -> x.paint(1), NONE);
        still("alike at 0: none", () -> laid("s0,0,0;s0,5,0;w1;"), x -> x.paint(1), NONE);
        due("in the next QUARTER, behind what is used up", laid("s0,50,9;s0,9,4;w1;").paint(0), 36);
        MayorsChair x = laid("s0,20,0;s0,5,0;w1;");
        x.mud(0, 15);
        due("in place of what is: as much", x.paint(0), 15);
        x.mud(0, 40);
        due("in place of what is: less", x.paint(0), 15);
        x.mud(1, 3);
        due("the other one's MUD is there", x.paint(0), 18);
        due("a PROUD one", laid("s1,5,0;s0,5,0;w1;").paint(0), 5);
        due("a SLY one", laid("s0,5,0;s2,10,0;w1;").paint(1), 1);
        due("a SPENDING one", laid("s3,20,0;s0,5,0;w1;").paint(0), 5);
    }

    private static void helpForG() {
        sentence("HELP for g (1 to 40) and n (0 to 40)");
        Supplier<MayorsChair> two = () -> laid("s0,50,0;s0,10,0;w1;");
        due("help(1, 0, 1)", two.get().help(1, 0, 1), 11);
        due("help(40, 0, 1)", two.get().help(40, 0, 1), 50);
        due("help(39, 0, 1)", two.get().help(39, 0, 1), 49);
        due("help(1, 39, 1)", two.get().help(1, 39, 1), 50);
        due("help(1, 40, 1): 51 and 51 more", two.get().help(1, 40, 1), 50);
        due("help(1, 38, 1)", two.get().help(1, 38, 1), 49);
        due("help(40, 40, 1)", two.get().help(40, 40, 1), 70);
        due("help(40, 40, 0): to the other one 50 alone", two.get().help(40, 40, 0), 1);
        for (int g : new int[] {0, 41, -1}) {
            still("g of " + g, two, x -> x.help(g, 0, 1), BAD);
        }
        for (int n : new int[] {-1, 41}) {
            still("n of " + n, two, x -> x.help(1, n, 1), BAD);
        }
        due("by none: the other one has its 10 still", two.get().help(40, 0, 0), 1);
        due("in full to a SPENDING one", laid("s0,50,0;s3,10,0;w1;").help(9, 0, 1), 19);
    }

    private static void helpAtMost() {
        sentence("g being given to it now (by none; 999 at most)");
        MayorsChair x = passed("s0,99,0;s0,99,0;w40;", 60);
        due("both 999", x.help(40, 0, 1), 999);
        due("the lowest", x.help(40, 0, 0), 0);
        due("behind 40", x.help(40, 40, 1), 999);
        // One that uses 9 and has 999: with 40 more it would stay above the other one, and not be the poorest.
        x = passed("s0,99,9;s0,99,0;w40;w1;", 800);
        x.pass(1);
        due("both have", wealth(x, 0) * 1000 + wealth(x, 1), 999999);
        due("the turn", x.count(6), 1);
        due("999 less 9, and 1", x.help(40, 1, 1), 991);
        due("to the one as to the other", x.help(40, 1, 0), 0);
    }

    private static void helpTheLowest() {
        sentence("the STREET that, g being given to it now (by none; 999 at most), has the poorest one have most behind n QUARTERS, "
            + "of several the lowest");
        due("all alike", laid("s0,5,0;s0,5,0;s0,5,0;w1;").help(3, 0, 0), 0);
        due("the poorest alone", laid("s0,5,0;s0,5,0;s0,4,0;w1;").help(3, 0, 0), 2);
        due("two poorest: neither is any better", laid("s0,5,0;s0,4,0;s0,4,0;w1;").help(3, 0, 0), 0);
        due("and how much", laid("s0,5,0;s0,4,0;s0,4,0;w1;").help(3, 0, 1), 4);
        due("0 is more than nothing", laid("s0,0,0;s0,0,0;s0,4,0;w1;").help(3, 0, 0), 0);
        due("and how much", laid("s0,0,0;s0,0,0;s0,4,0;w1;").help(3, 0, 1), 0);
    }

    // ---- terms: what was seen

    private static void seenAtMost() {
        sentence("SEEN (6 at most)");
        MayorsChair x = new MayorsChair();
        for (int i = 1; i <= 6; i++) {
            due("seen, " + i, x.seen(i, 4), i);
        }
        due("seen, 7", x.seen(7, 4), FULL);
        due("6 are", x.count(7), 6);
        still("seen, 7", Twins::crammed, y -> y.seen(7, 0), FULL);
        x.forget();
        due("seen again", x.seen(1, 4), 1);
    }

    private static void seenBehindQuarters() {
        sentence("behind n (1 to 40) QUARTERS the CHAIR stands in a STREET");
        Supplier<MayorsChair> one = () -> laid("s0,1,0;s0,40,0;w1;");
        MayorsChair x = one.get();
        due("n of 1", x.seen(1, 0), 1);
        due("so", x.kinds(1), 15);
        // It has 1, 2, .. and stands at the first of 40 and 40, so that the other has it in the 41st.
        due("n of 40", x.seen(40, 0), 2);
        due("so for PLAIN and PROUD", x.kinds(1), 3);
        still("n of 0", one, y -> y.seen(0, 0), BAD);
        still("n of 41", one, y -> y.seen(41, 0), BAD);
        x = laid("s0,1,0;s0,39,0;w1;");
        x.seen(40, 1);
        due("n of 40, the other one", x.kinds(1) & 1, 1);
        x = laid("s0,1,0;s0,38,0;w1;");
        x.seen(40, 1);
        due("n of 40, not the other one", x.kinds(1) & 1, 0);
    }

    private static void seenByHowAllStands() {
        sentence("(by how all stands when that is asked, not when it was SEEN)");
        MayorsChair x = laid("s0,5,0;s0,5,0;w10;");
        x.seen(1, 0);
        due("now", x.kinds(0) & 1, 1);
        x.pass(1);
        due("behind one", x.kinds(0) & 1, 0);
        x.pass(1);
        due("behind two", x.kinds(0) & 1, 1);
        x.mud(1, 1);
        due("with MUD", x.kinds(0) & 1, 0);
        x.undo();
        due("MUD UNDONE", x.kinds(0) & 1, 1);
        due("SEEN stays", x.count(7), 1);
    }

    private static void kindsAsBits() {
        sentence("KINDS of a STREET (bits of 0 to 3), in place of its own, by which all that is SEEN would be so");
        MayorsChair x = laid("s0,20,0;s0,20,0;w1;");
        due("nothing SEEN: all", x.kinds(0), 15);
        x.seen(1, 0);
        due("all but PROUD", x.kinds(0), 13);
        due("the other PROUD or PLAIN", x.kinds(1), 3);
        x.seen(1, 1);
        due("none", x.kinds(0), 0);
        x.forget();
        x.seen(1, 1);
        due("PROUD alone", x.kinds(0), 2);
        due("SLY or SPENDING", x.kinds(1), 12);
        due("its own stays", x.street(0, 0), 0);
        x = laid("s3,1,0;s0,1,0;w1;");
        x.seen(1, 0);
        due("its own is no other", x.kinds(0), 13);
        x = laid("s0,1,0;s0,3,0;w4;");
        x.seen(2, 0);
        // PLAIN it has 5, of the other one's 3; PROUD it LOOKS as 6, of the other one's 7; SLY as 0; SPENDING it has 3, as 1.
        due("the WORK by its KIND, too", x.kinds(0), 14);
    }

    private static void usesAsBits() {
        sentence("USES of a STREET (bits of 0 to 9), what it USES, likewise");
        MayorsChair x = laid("s0,9,9;s0,5,0;w1;");
        due("nothing SEEN: all", x.uses(0), 1023);
        x.seen(1, 0);
        due("4 to 9", x.uses(0), 1023 - 15);
        x.forget();
        x.seen(1, 1);
        due("0 to 3", x.uses(0), 15);
        due("none by itself", x.uses(1), 0);
        due("its own stays", x.street(0, 2), 9);
        x = laid("s0,13,0;s0,5,0;w1;");
        x.seen(1, 0);
        due("8 and 9", x.uses(0), 768);
        x = laid("s0,14,0;s0,5,0;w1;");
        x.seen(1, 0);
        due("9 alone", x.uses(0), 512);
        x = laid("s0,15,0;s0,5,0;w1;");
        x.seen(1, 0);
        due("none", x.uses(0), 0);
        x = laid("s0,5,3;s0,5,0;w1;");
        x.mud(1, 1);
        x.seen(1, 1);
        due("0 alone", x.uses(0), 1);
    }

    // ---- terms: chances, decades

    private static final String ONE_POOR = "s0,0,0;s0,50,0;w1;";

    private static void likelyForQuarters() {
        sentence("LIKELY for a STREET and n (1 to 8)");
        MayorsChair x = laid("s0,5,0;s0,5,0;w10;");
        for (int n = 1; n <= 8; n++) {
            due("likely(0, " + n + ", 0, 0)", x.likely(0, n, 0, 0), n % 2);
            due("likely(1, " + n + ", 0, 0)", x.likely(1, n, 0, 0), (n + 1) % 2);
            due("likely(1, " + n + ", 10, 0): always the other one", x.likely(1, n, 10, 0), 1);
        }
        still("n of 0", Twins::busy, y -> y.likely(0, 0, 1, 0), BAD);
        still("n of 9", Twins::busy, y -> y.likely(0, 9, 1, 0), BAD);
    }

    private static void likelyLoseTheirWay() {
        sentence("in each of the next n QUARTERS the men lose their way by x (0 to 10) of ten, for itself");
        MayorsChair x = laid(ONE_POOR);
        // The first one is the poorest ever, so that the last quarter alone tells.
        int[] below = {1, 10, 5, 10, 5, 2, 5, 10, 5, 10, 1};
        for (int of = 0; of <= 10; of++) {
            for (int n = 1; n <= 8; n += 7) {
                due("above, right, " + of, x.likely(0, n, of, 0), (10 - of) * below[of] / 10);
                due("below, right, " + of, x.likely(0, n, of, 1), below[of]);
                due("above, astray, " + of, x.likely(1, n, of, 0), of * below[of] / 10);
                due("below, astray, " + of, x.likely(1, n, of, 1), below[of]);
            }
        }
        still("x of -1", Twins::busy, y -> y.likely(0, 1, -1, 0), BAD);
        still("x of 11", Twins::busy, y -> y.likely(0, 1, 11, 0), BAD);
    }

    private static void likelyPoorestButOne() {
        sentence("the CHAIR goes to the one that LOOKS poorest but one (the poorest of the others)");
        MayorsChair x = laid("s0,5,0;s0,4,0;s0,5,0;w1;");
        due("of the others, the lowest of several", x.likely(0, 1, 10, 0), 1);
        due("not the later one", x.likely(2, 1, 10, 0), 0);
        due("not the poorest", x.likely(1, 1, 10, 0), 0);
        x = laid("s0,4,0;s0,4,0;s0,4,0;w1;");
        due("all alike: the second", x.likely(1, 1, 10, 0), 1);
        x = laid("s0,0,0;s0,0,0;w1;");
        due("none but FIREWOOD", x.likely(1, 8, 10, 0), 1);
        x = laid("s0,9,0;s0,8,0;s0,7,0;s0,6,0;s0,5,0;s0,4,0;w1;");
        due("the last but one", x.likely(4, 1, 10, 0), 1);
        // Right, then astray: 0 has 11 of 1 and 5, and 1 the chair; astray, then right: 1 has 15 of 1 and 5, and 0 the chair.
        x = laid("s0,1,0;s0,5,0;w10;");
        due("right twice: 1; right, astray: 0; astray, right: 0; astray twice: 1", x.likely(1, 2, 1, 0), 41);
        due("of", x.likely(1, 2, 1, 1), 50);
        due("the other", x.likely(0, 2, 1, 0), 9);
    }

    private static void likelyLowestTerms() {
        sentence("how likely it stands in that STREET behind them, in lowest terms");
        MayorsChair x = laid("s0,5,0;s0,5,0;w10;");
        due("a half of a hundred million: above", x.likely(0, 8, 5, 0), 1);
        due("a half of a hundred million: below", x.likely(0, 8, 5, 1), 2);
        due("none: above", x.likely(0, 8, 0, 0), 0);
        due("none: below", x.likely(0, 8, 0, 1), 1);
        due("for sure: above", x.likely(1, 8, 0, 0), 1);
        due("for sure: below", x.likely(1, 8, 0, 1), 1);
    }

    private static long draw(long z, long quarter) {
        long x = 7919 * z + 6151 * quarter + 1;
        return x * x % 65521 / 2;
    }

    private static void decadeNumbers() {
        sentence("A DECADE by z (0 to 9999) of n (1 to 60) QUARTERS from now on (nothing changes by it)");
        Supplier<MayorsChair> wood = () -> laid("s0,0,0;s0,0,0;w1;");
        // No wealth: gifts and fires do nothing, mud makes none look poorer than 0.
        for (int z : new int[] {0, 1, 4999, 9998, 9999}) {
            for (int n : new int[] {1, 2, 59, 60}) {
                still("WEALTH, z " + z + ", n " + n, wood, x -> x.decade(z, n, 0), 0);
                still("where, z " + z + ", n " + n, wood, x -> x.decade(z, n, 1), 0);
                still("FIREWOOD, z " + z + ", n " + n, wood, x -> x.decade(z, n, 2), n);
            }
        }
        for (int z : new int[] {-1, 10000}) {
            still("z of " + z, Twins::busy, x -> x.decade(z, 1, 0), BAD);
        }
        for (int n : new int[] {0, 61}) {
            still("n of " + n, Twins::busy, x -> x.decade(0, n, 0), BAD);
        }
    }

    private static void decadeStreetOfTheDraw() {
        sentence("ahead of each, with STREET DRAW modulo as many");
        String text = "s0,94,0;s0,95,0;s0,96,0;s0,97,0;s0,98,0;s0,99,0;";
        for (int streets = 2; streets <= 6; streets++) {
            MayorsChair x = laid(text.substring(0, 8 * streets) + "w1;");
            boolean[] burnt = new boolean[streets];
            for (int z = 0; z < 400; z++) {
                long d = draw(z, 0);
                if (d / 8 % 4 == 2 && !burnt[(int) (d % streets)]) {
                    burnt[(int) (d % streets)] = true;
                    due("the burnt one of " + streets + ", z " + z, x.decade(z, 1, 1), d % streets);
                }
            }
            for (boolean each : burnt) {
                Check.holds("each of " + streets + " burnt once", each);
            }
        }
    }

    private static void decadeMud() {
        sentence("if (DRAW by 8, cut) modulo 4 is 0, MUD of (DRAW by 64, cut) modulo 12 is painted there");
        MayorsChair first = laid("s0,5,0;s0,3,0;w9;");
        first.mud(0, 9);
        due("DRAW 0, the least: MUD of 0 on the first", first.decade(0, 1, 1), 1);
        int[] looked = new int[12];
        for (int z = 0; z < 9999; z++) {
            long d = draw(z, 0);
            int mud = (int) (d / 64 % 12);
            if (d / 8 % 4 == 0 && d % 2 == 1 && looked[mud] == 0) {
                looked[mud] = 1;
                due("MUD of " + mud + " is enough", laid("s0," + (30 - mud + 1) + ",0;s0,30,0;w1;").decade(z, 1, 1), 1);
                due("MUD of " + mud + " is not enough", laid("s0," + (30 - mud) + ",0;s0,30,0;w1;").decade(z, 1, 1), 0);
                MayorsChair x = laid("s0," + (30 - mud) + ",0;s0,30,0;w1;");
                x.mud(1, 40);
                due("in place of what is", x.decade(z, 1, 1), 0);
            }
        }
        for (int mud = 0; mud < 12; mud++) {
            due("MUD of " + mud + " was painted", looked[mud], 1);
        }
    }

    private static void decadeGift() {
        sentence("if 1, it GIVES 1 to STREET (DRAW by 64, cut) modulo as many");
        MayorsChair x = laid("s0,50,0;s0,50,0;s0,50,0;s0,50,0;w9;");
        boolean[] looked = new boolean[16];
        for (int z = 0; z < 9999; z++) {
            long d = draw(z, 0);
            int from = (int) (d % 4);
            int to = (int) (d / 64 % 4);
            if (d / 8 % 4 == 1 && !looked[from * 4 + to]) {
                looked[from * 4 + to] = true;
                due("the giver " + from + " has 1 less than others; alike: nothing", x.decade(z, 1, 1), from == to ? 0 : from);
                due("nothing is lost", x.decade(z, 1, 0), 209);
            }
        }
        for (boolean each : looked) {
            Check.holds("each to each", each);
        }
    }

    /** The first z by which the second of two streets gives to the first. */
    private static int giftToTheFirst() {
        for (int z = 0; z < 9999; z++) {
            long d = draw(z, 0);
            if (d / 8 % 4 == 1 && d % 2 == 1 && d / 64 % 2 == 0) {
                return z;
            }
        }
        return -1;
    }

    private static void decadeGiftIfItCanBe() {
        sentence("if it can be;");
        int z = giftToTheFirst();
        due("one of 0 cannot", laid("s0,0,0;s0,0,0;w9;").decade(z, 1, 0), 0);
        due("its FIREWOOD", laid("s0,9,0;s0,0,0;w9;").decade(z, 1, 2), 1);
        due("the other one as it was", laid("s0,9,0;s0,0,0;w9;").decade(z, 1, 0), 9);
        due("one of 1 can: FIREWOOD then", laid("s0,9,0;s0,1,0;w9;").decade(z, 1, 2), 1);
        due("one of 1 can: WEALTH of all", laid("s0,9,0;s0,1,0;w9;").decade(z, 1, 0), 10);
        due("to 0: no FIREWOOD then", laid("s0,0,0;s0,9,0;w9;").decade(z, 1, 2), 0);
        due("in full to a SPENDING one", laid("s3,9,0;s0,20,0;w1;").decade(z, 1, 0), 29);
        MayorsChair x = passed("s0,79,0;s0,79,0;w40;", 44);
        due("both have", wealth(x, 0) * 1000 + wealth(x, 1), 959959);
        due("to one of 959 it can be: the giver is the poorest", x.decade(z, 1, 1), 1);
        x = passed("s0,80,0;s0,80,0;w40;", 44);
        due("both have", wealth(x, 0) * 1000 + wealth(x, 1), 960960);
        due("to one of 960 it can not: the lowest", x.decade(z, 1, 1), 0);
    }

    private static void decadeFire() {
        sentence("if 2, its WEALTH is 0 by fire");
        for (int z = 0; z < 200; z++) {
            long d = draw(z, 0);
            if (d / 8 % 4 == 2) {
                MayorsChair x = laid("s0,60,0;s0,70,0;s0,80,0;w9;");
                int burnt = (int) (d % 3);
                due("WEALTH of all", x.decade(z, 1, 0), 210 - 60 - 10 * burnt);
                due("where", x.decade(z, 1, 1), burnt);
                due("FIREWOOD", x.decade(z, 1, 2), 1);
                due("nothing changes by it", x.count(4), 210);
            }
        }
    }

    private static void decadeNothingElse() {
        sentence("(DRAW by 8, cut) modulo 4");
        for (int z = 0; z < 200; z++) {
            if (draw(z, 0) / 8 % 4 == 3) {
                MayorsChair x = laid("s0,60,0;s0,60,0;s0,60,0;w9;");
                due("WEALTH of all", x.decade(z, 1, 0), 189);
                due("where", x.decade(z, 1, 1), 0);
                due("FIREWOOD", x.decade(z, 1, 2), 0);
            }
        }
    }

    private static void decadeDrawOfEachQuarter() {
        sentence("DRAW being ((x times x) modulo 65521) by 2, cut, x 7919 z, 6151 (the QUARTER of these, 0 first) and 1 together");
        due("DRAW by 0 in the first", draw(0, 0), 0);
        due("DRAW by 0 in the second: 6152 times 6152 is 577 times 65521 and 41487", draw(0, 1), 20743);
        due("DRAW by 9999 in the last: its square is beyond 32 bits", draw(9999, 59), 79544991L * 79544991L % 65521 / 2);
        // Nothing in all but the last of n quarters, then fire: what burns is told by the draw of the last.
        int[] found = new int[5];
        for (int z = 0; z < 9999; z++) {
            int quiet = 0;
            while (quiet < 4 && draw(z, quiet) / 8 % 4 == 3) {
                quiet++;
            }
            long d = draw(z, quiet);
            if (d / 8 % 4 == 2) {
                found[quiet]++;
                MayorsChair x = laid("s0,99,0;s0,99,0;s0,99,0;w9;");
                due("fire behind " + quiet + ", z " + z, x.decade(z, quiet + 1, 1), d % 3);
                due("FIREWOOD once", x.decade(z, quiet + 1, 2), 1);
                if (quiet > 0) {
                    due("none ahead of it", x.decade(z, quiet, 2), 0);
                }
                // Works one after another: 0, 1, 2, 0, ..; what the burnt one had of them is gone.
                int lost = 99 + 9 * ((quiet - (int) (d % 3) + 2) / 3);
                due("WEALTH of all", x.decade(z, quiet + 1, 0), 297 + 9 * quiet - lost);
            }
        }
        for (int quiet = 0; quiet < 5; quiet++) {
            Check.holds("some burnt behind " + quiet, found[quiet] > 0);
        }
        MayorsChair x = laid("s0,99,0;s0,99,0;s0,99,0;w9;");
        x.pass(3);
        due("the QUARTER of these, not that of the town", x.decade(0, 1, 1), 0);
        due("as it is in QUARTER 0", x.decade(0, 1, 0), 333);
    }

    private static void decadeFirewoodInIt() {
        sentence("WEALTH of all then; where the CHAIR stands; how often it was FIREWOOD in it");
        MayorsChair x = laid("s0,0,0;s0,0,0;w1;");
        x.pass(9);
        due("FIREWOOD so far", x.count(5), 9);
        due("in it", x.decade(7, 3, 2), 3);
        x.pass(20);
        due("in it", x.decade(7, 60, 2), 60);
        still("what of 3", Twins::busy, y -> y.decade(0, 1, 3), BAD);
        still("what of -1", Twins::busy, y -> y.decade(0, 1, -1), BAD);
    }

    // ---- terms: kept

    private static void keptTwo() {
        sentence("KEPT is all as it stands, but THE TEXT and what is SEEN: 2 at most");
        MayorsChair x = new MayorsChair();
        due("keep()", x.keep(), 1);
        due("keep()", x.keep(), 2);
        due("keep()", x.keep(), FULL);
        due("KEPT", x.count(9), 2);
        still("keep() of a third", Twins::crammed, MayorsChair::keep, FULL);
        x.back();
        due("one left, one more", x.keep(), 2);
        due("keep()", x.keep(), FULL);
    }

    private static void keptButTextAndSeen() {
        sentence("KEPT is all as it stands, but THE TEXT and what is SEEN");
        MayorsChair x = laid("s0,0,0;s0,50,3;s3,9,1;w5;w7;");
        x.pass(3);
        x.mud(1, 9);
        x.change(0, 1);
        x.seen(1, 0);
        x.keep();
        int[] was = new int[18];
        for (int i = 0; i < 18; i++) {
            was[i] = x.street(i / 6, i % 6);
        }
        int[] counts = new int[7];
        for (int what = 0; what < 7; what++) {
            counts[what] = x.count(what);
        }
        x.pass(20);
        x.change(0, 1);
        x.give(1, 0, 1);
        x.mud(2, 3);
        x.seen(2, 0);
        x.write('q');
        due("back()", x.back(), 0);
        for (int i = 0; i < 18; i++) {
            due("street(" + i / 6 + ", " + i % 6 + ")", x.street(i / 6, i % 6), was[i]);
        }
        for (int what = 0; what < 7; what++) {
            due("count(" + what + ")", x.count(what), counts[what]);
        }
        due("WORKS", x.work(0) * 10 + x.work(1), 75);
        due("SEEN stays", x.count(7), 2);
        due("THE TEXT stays", x.count(10), 29);
        due("nothing is UNDONE", x.count(8), 0);
    }

    // ---- terms: answers

    private static void badNone() {
        sentence("BAD: a number is none that is told (STREETS, WORKS: such as there are)");
        MayorsChair x = laid("s0,1,0;s0,99,0;w1;");
        due("the last STREET of two", x.street(1, 1), 99);
        due("no third of two", x.street(2, 1), BAD);
        due("the last WORK of one", x.work(0), 1);
        due("no second of one", x.work(1), BAD);
        x = laid(SIX_STREETS + SIX_WORKS);
        due("the last STREET of six", x.street(5, 1), 6);
        due("no seventh of six", x.street(6, 1), BAD);
        due("the last WORK of six", x.work(5), 6);
        due("no seventh of six", x.work(6), BAD);
        x.wipe();
        Twins.write(x, "s0,1,0;s0,99,0;w1;");
        x.lay();
        due("laid anew: no third", x.street(2, 1), BAD);
        due("laid anew: no second", x.work(1), BAD);
    }

    private static void firstInThisOrder() {
        sentence("Of several the first in this order; nothing changes then");
        still("write(31), full: BAD", Twins::crammed, x -> x.write(31), BAD);
        still("write(127), full: BAD", Twins::crammed, x -> x.write(127), BAD);
        still("pass(0), beyond 999: BAD", Twins::last, x -> x.pass(0), BAD);
        still("pass(21), beyond 999: BAD", Twins::last, x -> x.pass(21), BAD);
        still("mud(5, 0), none there: BAD", Twins::crammed, x -> x.mud(5, 0), BAD);
        still("mud(-1, 0): BAD", Twins::crammed, x -> x.mud(-1, 0), BAD);
        still("give(0, 0, 40), alike and not so much: BAD", Twins::last, x -> x.give(0, 0, 40), BAD);
        still("give(0, 1, 41), not so much: BAD", Twins::last, x -> x.give(0, 1, 41), BAD);
        still("give(0, 2, 1), not so much: BAD", Twins::last, x -> x.give(0, 2, 1), BAD);
        Supplier<MayorsChair> rich = () -> passed("s0,99,0;s0,99,0;w40;", 60);
        still("give(1, 1, 1), alike, and 999: BAD", rich, x -> x.give(1, 1, 1), BAD);
        still("give(0, 1, 0), to 999: BAD", rich, x -> x.give(0, 1, 0), BAD);
        still("give(2, 1, 1), to 999: BAD", rich, x -> x.give(2, 1, 1), BAD);
        still("seen(0, 0), full: BAD", Twins::crammed, x -> x.seen(0, 0), BAD);
        still("seen(41, 0), full: BAD", Twins::crammed, x -> x.seen(41, 0), BAD);
        still("seen(1, 5), full: BAD", Twins::crammed, x -> x.seen(1, 5), BAD);
        still("seen(1, 0), full: FULL", Twins::crammed, x -> x.seen(1, 0), FULL);
        still("first(2) of two: BAD", Twins::last, x -> x.first(2), BAD);
        still("paint(2) of two: BAD", Twins::last, x -> x.paint(2), BAD);
        still("even(-1), never even: BAD", Twins::last, x -> x.even(-1), BAD);
    }
}
