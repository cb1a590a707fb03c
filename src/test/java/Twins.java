import java.util.ArrayList;
import java.util.List;
import java.util.function.Supplier;
import java.util.function.ToIntFunction;

/**
 * Looks whether a call changes nothing: beside the object that was called stands a twin that was not, and both
 * are asked the same. No object is asked more than 512 times, so each way of asking has twins of its own.
 */
final class Twins {
    /** A call with one number that is looked at. */
    interface Numbered {
        int on(MayorsChair x, int number);
    }

    private static final int WAYS = 5;
    private static final int NO = -2, BAD = -1;
    private static final int[] FAR_OFF = {Integer.MIN_VALUE, -65536, -4, -3, -2, 256, 65536, Integer.MAX_VALUE};

    private Twins() {
    }

    static MayorsChair written(String text) {
        MayorsChair x = new MayorsChair();
        write(x, text);
        return x;
    }

    static void write(MayorsChair x, String text) {
        for (int i = 0; i < text.length(); i++) {
            x.write(text.charAt(i));
        }
    }

    static MayorsChair laid(String text) {
        MayorsChair x = written(text);
        Check.holds("lay() of " + text, x.lay() >= 2);
        return x;
    }

    /** Quarters beyond 20 by several calls. */
    static MayorsChair passed(MayorsChair x, int quarters) {
        for (int left = quarters; left > 0; left -= 20) {
            Check.holds("pass(" + Math.min(left, 20) + ")", x.pass(Math.min(left, 20)) >= 0);
        }
        return x;
    }

    /** Three streets, two works, something of each kind behind it. */
    static MayorsChair busy() {
        MayorsChair x = laid("s0,9,1;s1,20,2;s3,30,0;w8;w5;");
        x.mud(0, 3);
        x.keep();
        x.pass(2);
        x.give(2, 0, 4);
        x.change(0, 1);
        x.mud(2, 6);
        x.seen(2, 0);
        x.wipe();
        write(x, "s0,3,3;s1,40,4;w6;");
        return x;
    }

    /** The first town: no letter more can be written, nothing more be seen or kept, and 8 be undone. */
    static MayorsChair crammed() {
        MayorsChair x = new MayorsChair();
        x.keep();
        x.pass(7);
        x.keep();
        for (int m = 1; m <= 10; m++) {
            x.mud(m % 5, m);
        }
        x.pass(1);
        for (int n = 1; n <= 6; n++) {
            x.seen(n, 4);
        }
        write(x, "s0,1,2;".repeat(28) + "w1;s");
        return x;
    }

    /** Behind the last quarter that goes by with acts: firewood at 0 in each of them. */
    static MayorsChair last() {
        MayorsChair x = passed(laid("s0,0,0;s0,50,0;w1;"), 999);
        x.seen(40, 0);
        return x;
    }

    /** The call answers what is due, and behind it nothing has changed. */
    static void still(String call, Supplier<MayorsChair> start, ToIntFunction<MayorsChair> run, int want) {
        Check.due(call, run.applyAsInt(start.get()), want);
        for (int way = 0; way < WAYS; way++) {
            MayorsChair called = start.get();
            run.applyAsInt(called);
            Check.holds(call + " changes nothing (way " + way + ")", told(called, way).equals(told(start.get(), way)));
        }
    }

    /** Each number from least to most is taken; the ones beside them and those far off are BAD, and change nothing. */
    static void edges(String call, Supplier<MayorsChair> start, Numbered run, int least, int most) {
        for (int number = least; number <= most; number++) {
            Check.holds(call + " takes " + number, run.on(start.get(), number) != BAD);
        }
        refuses(call, start, run, least - 1);
        refuses(call, start, run, most + 1);
        for (int number : FAR_OFF) {
            if (number < least || number > most) {
                refuses(call, start, run, number);
            }
        }
    }

    private static void refuses(String call, Supplier<MayorsChair> start, Numbered run, int number) {
        still(call + " with " + number, start, x -> run.on(x, number), BAD);
    }

    private static List<Integer> told(MayorsChair x, int way) {
        List<Integer> answers = new ArrayList<>();
        switch (way) {
            case 0 -> whole(x, answers);
            case 1 -> {
                for (int left = x.undo(); left != NO; left = x.undo()) {
                    answers.add(left);
                    town(x, answers);
                }
            }
            case 2 -> {
                for (int left = x.back(); left != NO; left = x.back()) {
                    answers.add(left);
                    whole(x, answers);
                }
            }
            case 3 -> {
                answers.add(x.lay());
                whole(x, answers);
                answers.add(x.wipe());
                answers.add(x.fault());
            }
            default -> toCome(x, answers);
        }
        return answers;
    }

    private static void whole(MayorsChair x, List<Integer> answers) {
        town(x, answers);
        for (int what = 7; what <= 10; what++) {
            answers.add(x.count(what));
        }
        for (int s = 0; s < 6; s++) {
            answers.add(x.street(s, 0));
            answers.add(x.street(s, 2));
            answers.add(x.street(s, 3));
            answers.add(x.kinds(s));
            answers.add(x.uses(s));
        }
        answers.add(x.fault());
    }

    private static void town(MayorsChair x, List<Integer> answers) {
        for (int what = 2; what <= 6; what++) {
            answers.add(x.count(what));
        }
        int streets = x.count(0);
        for (int s = 0; s < streets; s++) {
            answers.add(x.street(s, 1));
            answers.add(x.street(s, 4));
            answers.add(x.street(s, 5));
        }
        int works = x.count(1);
        for (int k = 0; k < works; k++) {
            answers.add(x.work(k));
        }
        answers.add(streets * 10 + works);
    }

    private static void toCome(MayorsChair x, List<Integer> answers) {
        int streets = x.count(0);
        for (int s = 0; s < streets; s++) {
            answers.add(x.behind(60, s, 0));
            answers.add(x.behind(60, s, 1));
            answers.add(x.first(s));
            answers.add(x.paint(s));
            answers.add(x.likely(s, 3, 4, 0));
        }
        answers.add(x.order(3, -1));
        answers.add(x.help(9, 20, 1));
        answers.add(x.decade(1234, 40, 0));
        answers.add(x.forget());
        answers.add(x.pass(1));
        whole(x, answers);
    }
}
