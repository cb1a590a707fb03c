import java.lang.reflect.Method;
import java.util.ArrayList;
import java.util.Arrays;
import java.util.List;
import java.util.Random;

/** Random runs, always the same ones: the program answers each call as Model does, right and wrong arguments alike. */
public final class ModelTest {
    private static final int RUNS = 400;
    private static final int CALLS = 512;
    private static final int[] EXTREMES = {Integer.MIN_VALUE, -1000000, -4, -3, -2, -1, 61, 100, 127, 1000, 10000,
        65536, 1 << 30, Integer.MAX_VALUE};
    private static final List<Method> METHODS = new ArrayList<>();

    private final Random random;
    private final MayorsChair chair = new MayorsChair();
    private final Model model = new Model();
    private final List<String> told = new ArrayList<>();
    private final int run;
    private boolean astray = false;
    private boolean full = false;

    private ModelTest(int run) {
        this.run = run;
        this.random = new Random(run);
    }

    public static void main(String[] args) throws Exception {
        for (Method m : MayorsChair.class.getDeclaredMethods()) {
            if (java.lang.reflect.Modifier.isPublic(m.getModifiers())) {
                METHODS.add(m);
            }
        }
        METHODS.sort((a, b) -> a.getName().compareTo(b.getName()));
        for (int run = 0; run < RUNS; run++) {
            new ModelTest(run).play();
        }
        Check.finish("ModelTest");
    }

    private void play() throws Exception {
        if (random.nextInt(5) > 0) {
            writeTown(random.nextInt(6) == 0);
            call("fault");
            call("lay");
        }
        int haste = random.nextInt(3);
        while (!full && !astray) {
            step(haste);
        }
        if (astray) {
            told.stream().skip(Math.max(0, told.size() - 12)).forEach(System.out::println);
        }
    }

    private void step(int haste) throws Exception {
        int r = random.nextInt(100);
        if (haste == 2 && r < 45) {
            call("pass", 20);
        } else if (r < 3) {
            call("wipe");
            writeTown(random.nextInt(3) == 0);
            call("fault");
            call("lay");
        } else if (r < 20) {
            act();
        } else if (r < 24) {
            seeWhatComes();
        } else {
            Method m = METHODS.get(random.nextInt(METHODS.size()));
            boolean dear = m.getName().equals("order") && model.count(1) > 4 && random.nextInt(8) > 0;
            boolean again = m.getName().equals("wipe") && random.nextInt(8) > 0;
            if (!dear && !again) {
                call(m.getName(), arguments(m));
            }
        }
    }

    private void act() throws Exception {
        int streets = model.count(0);
        int works = model.count(1);
        switch (random.nextInt(6)) {
            case 0 -> call("pass", 1 + random.nextInt(4));
            case 1 -> call("mud", random.nextInt(streets), random.nextInt(41));
            case 2 -> call("give", random.nextInt(streets), random.nextInt(streets), 1 + random.nextInt(40));
            case 3 -> call("change", random.nextInt(works), random.nextInt(works));
            case 4 -> call("undo");
            default -> call(random.nextBoolean() ? "keep" : "back");
        }
    }

    /** Sightings that are mostly true, so that kinds and uses have something to tell apart. */
    private void seeWhatComes() throws Exception {
        int n = 1 + random.nextInt(40);
        int streets = model.count(0);
        int place = random.nextInt(streets);
        for (int s = 0; s < streets; s++) {
            if (model.behind(n, s, 1) > model.behind(n - 1, s, 1)) {
                place = s;
            }
        }
        call("seen", n, place);
        call("kinds", random.nextInt(streets));
        call("uses", random.nextInt(streets));
    }

    private int[] arguments(Method m) {
        int[] all = new int[m.getParameterCount()];
        boolean wild = random.nextInt(12) == 0;
        for (int i = 0; i < all.length; i++) {
            all[i] = wild && random.nextInt(all.length) == 0
                    ? EXTREMES[random.nextInt(EXTREMES.length)] : argument(m.getName(), i);
        }
        return all;
    }

    /** Mostly what is told, with one number on each side of it. */
    private int argument(String name, int i) {
        int streets = upTo(model.count(0));
        return switch (name + i) {
            case "write0" -> random.nextInt(40) == 0 ? 31 + 96 * random.nextInt(2) : "sw0123456789,; ~".charAt(random.nextInt(16));
            case "street1" -> upTo(6);
            case "work0", "change0", "change1" -> upTo(model.count(1));
            case "pass0" -> upTo(21);
            case "mud1" -> upTo(41);
            case "give2" -> upTo(41);
            case "behind0" -> upTo(61);
            case "behind2" -> upTo(2);
            case "even0" -> random.nextBoolean() ? upTo(100) : upTo(20);
            case "order0" -> upTo(41);
            case "order1" -> random.nextInt(3) == 0 ? -1 : upTo(model.count(1));
            case "help0", "help1" -> upTo(41);
            case "help2" -> upTo(2);
            case "seen0" -> upTo(41);
            case "likely1" -> upTo(9);
            case "likely2" -> upTo(11);
            case "likely3" -> upTo(2);
            case "decade0" -> random.nextInt(20) == 0 ? 9998 + random.nextInt(4) : upTo(10000);
            case "decade1" -> upTo(61);
            case "decade2" -> upTo(3);
            case "count0" -> upTo(11);
            default -> streets;
        };
    }

    private int upTo(int end) {
        return random.nextInt(16) == 0 ? (random.nextBoolean() ? -1 : end) : random.nextInt(end);
    }

    private void writeTown(boolean faulty) throws Exception {
        StringBuilder text = new StringBuilder();
        int streets = random.nextInt(20) == 0 ? random.nextInt(9) : 2 + random.nextInt(5);
        int works = random.nextInt(20) == 0 ? random.nextInt(9) : 1 + random.nextInt(random.nextInt(4) == 0 ? 6 : 4);
        boolean thrifty = random.nextInt(3) == 0;
        while (streets + works > 0) {
            if (random.nextInt(streets + works) < streets) {
                streets--;
                text.append('s').append(random.nextInt(4)).append(',').append(wealth()).append(',')
                    .append(random.nextInt(thrifty ? 2 : 10)).append(';');
            } else {
                works--;
                text.append('w').append(thrifty ? 20 + random.nextInt(21) : 1 + random.nextInt(40)).append(';');
            }
        }
        if (faulty && text.length() > 0) {
            spoil(text);
        }
        for (int i = 0; i < text.length() && i < 205; i++) {
            call("write", text.charAt(i));
        }
    }

    private String wealth() {
        int w = random.nextInt(random.nextBoolean() ? 100 : 15);
        return w < 10 && random.nextInt(6) == 0 ? "0" + w : "" + w;
    }

    private void spoil(StringBuilder text) {
        int at = random.nextInt(text.length());
        char letter = "sw0149,; x".charAt(random.nextInt(10));
        switch (random.nextInt(4)) {
            case 0 -> text.deleteCharAt(at);
            case 1 -> text.insert(at, letter);
            case 2 -> text.setCharAt(at, letter);
            default -> text.setLength(at);
        }
    }

    private void call(String name, int... args) throws Exception {
        if (full || astray) {
            return;
        }
        Object[] boxed = Arrays.stream(args).boxed().toArray();
        Class<?>[] types = new Class<?>[args.length];
        Arrays.fill(types, int.class);
        int got = (int) MayorsChair.class.getMethod(name, types).invoke(chair, boxed);
        int want = (int) Model.class.getMethod(name, types).invoke(model, boxed);
        String call = "run " + run + ": " + name + Arrays.toString(args);
        told.add(call + " = " + got);
        Check.due(call, got, want);
        astray = got != want;
        full = told.size() >= CALLS;
    }
}
