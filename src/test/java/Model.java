import java.math.BigInteger;
import java.util.ArrayList;
import java.util.List;
import java.util.function.IntFunction;
import java.util.regex.Matcher;
import java.util.regex.Pattern;

/**
 * The document told a second time, in another manner: towns are values that never change, texts are read by
 * regular expressions, orders and ways are gone through by recursion. ModelTest holds the program against it.
 */
public final class Model {
    static final int BAD = -1, NO = -2, FULL = -3, NONE = -4;

    record Street(int kind, int wealth, int use, int mud, int stood) {
        int looks() {
            int w = switch (kind) {
                case 1 -> wealth + 5;
                case 2 -> wealth < 5 ? 0 : wealth - 5;
                case 3 -> wealth / 2;
                default -> wealth;
            };
            return w < mud ? 0 : w - mud;
        }

        Street wealth(int w) {
            return new Street(kind, Math.min(999, Math.max(0, w)), use, mud, stood);
        }

        Street mud(int m) {
            return new Street(kind, wealth, use, m, stood);
        }
    }

    record Town(List<Street> streets, List<Integer> works, int quarter, int chair, int fire) {
        Town street(int s, Street as) {
            List<Street> other = new ArrayList<>(streets);
            other.set(s, as);
            return new Town(List.copyOf(other), works, quarter, chair, fire);
        }

        Town works(List<Integer> as) {
            return new Town(streets, List.copyOf(as), quarter, chair, fire);
        }

        Street at(int s) {
            return streets.get(s);
        }

        List<Integer> byLooks() {
            List<Integer> all = new ArrayList<>();
            for (int s = 0; s < streets.size(); s++) {
                all.add(s);
            }
            all.sort((a, b) -> at(a).looks() != at(b).looks() ? at(a).looks() - at(b).looks() : a - b);
            return all;
        }

        Town next(int rank) {
            Town t = this;
            for (int s = 0; s < streets.size(); s++) {
                t = t.street(s, t.at(s).wealth(t.at(s).wealth() - t.at(s).use()));
            }
            int goal = t.byLooks().get(rank);
            Street old = t.at(goal);
            boolean burns = old.wealth() == 0;
            int worth = works.get(quarter % works.size());
            int more = burns ? 0 : old.kind() == 3 ? worth / 2 : worth;
            Street then = new Street(old.kind(), Math.min(999, old.wealth() + more), old.use(), 0, old.stood() + 1);
            return new Town(t.street(goal, then).streets, works, quarter + 1, goal, fire + (burns ? 1 : 0));
        }

        Town after(int n) {
            Town t = this;
            for (int i = 0; i < n; i++) {
                t = t.next(0);
            }
            return t;
        }

        int least() {
            return streets.stream().mapToInt(Street::wealth).min().orElseThrow();
        }

        int most() {
            return streets.stream().mapToInt(Street::wealth).max().orElseThrow();
        }

        int all() {
            return streets.stream().mapToInt(Street::wealth).sum();
        }

        boolean canGive(int s, int to, int g) {
            return s != to && at(s).wealth() >= g && at(to).wealth() < 960;
        }

        Town give(int s, int to, int g) {
            Town t = street(s, at(s).wealth(at(s).wealth() - g));
            return t.street(to, t.at(to).wealth(t.at(to).wealth() + g));
        }
    }

    private static final Pattern STREET = Pattern.compile("s0?([0-3]),(\\d\\d?),0?(\\d);");
    private static final Pattern WORK = Pattern.compile("w(0?[1-9]|[1-3]\\d|40);");

    private final StringBuilder text = new StringBuilder();
    private Town town;
    private final List<Town> past = new ArrayList<>();
    private final List<Town> kept = new ArrayList<>();
    private final List<int[]> seen = new ArrayList<>();

    public Model() {
        town = read("s0,20,2;s1,8,1;s2,14,3;s3,10,1;s0,0,0;w9;w4;w15;", new int[1]);
    }

    private static Town read(String from, int[] fault) {
        List<Street> streets = new ArrayList<>();
        List<Integer> works = new ArrayList<>();
        int at = 0;
        while (at < from.length()) {
            Matcher s = STREET.matcher(from).region(at, from.length());
            Matcher w = WORK.matcher(from).region(at, from.length());
            if (s.lookingAt() && streets.size() < 6) {
                streets.add(new Street(Integer.parseInt(s.group(1)), Integer.parseInt(s.group(2)),
                        Integer.parseInt(s.group(3)), 0, 0));
                at = s.end();
            } else if (w.lookingAt() && works.size() < 6) {
                works.add(Integer.parseInt(w.group(1)));
                at = w.end();
            } else {
                fault[0] = at;
                return null;
            }
        }
        fault[0] = NONE;
        return new Town(List.copyOf(streets), List.copyOf(works), 0, NONE, 0);
    }

    private boolean no(int number, int least, int most) {
        return number < least || number > most;
    }

    private boolean noStreet(int s) {
        return no(s, 0, town.streets.size() - 1);
    }

    private boolean noWork(int k) {
        return no(k, 0, town.works.size() - 1);
    }

    private void remember() {
        past.add(town);
        if (past.size() > 8) {
            past.remove(0);
        }
    }

    public int write(int letter) {
        if (no(letter, 32, 126)) return BAD;
        if (text.length() == 200) return FULL;
        return text.append((char) letter).length();
    }

    public int wipe() {
        int was = text.length();
        text.setLength(0);
        return was;
    }

    public int fault() {
        int[] fault = new int[1];
        read(text.toString(), fault);
        return fault[0];
    }

    public int lay() {
        Town laid = read(text.toString(), new int[1]);
        if (laid == null || laid.streets.size() < 2 || laid.works.isEmpty()) return NO;
        town = laid;
        past.clear();
        kept.clear();
        seen.clear();
        return laid.streets.size();
    }

    public int street(int s, int what) {
        if (noStreet(s) || no(what, 0, 5)) return BAD;
        Street t = town.at(s);
        return new int[] {t.kind, t.wealth, t.use, t.looks(), t.mud, t.stood}[what];
    }

    public int work(int k) {
        return noWork(k) ? BAD : town.works.get(k);
    }

    public int pass(int n) {
        if (no(n, 1, 20)) return BAD;
        if (town.quarter + n > 999) return NO;
        remember();
        town = town.after(n);
        return town.chair;
    }

    public int mud(int s, int m) {
        if (noStreet(s) || no(m, 0, 40)) return BAD;
        int was = town.at(s).mud;
        if (was == m) return NO;
        remember();
        town = town.street(s, town.at(s).mud(m));
        return was;
    }

    public int give(int s, int to, int g) {
        if (noStreet(s) || noStreet(to) || s == to || no(g, 1, 40)) return BAD;
        if (!town.canGive(s, to, g)) return NO;
        remember();
        town = town.give(s, to, g);
        return town.at(s).wealth;
    }

    public int change(int a, int b) {
        if (noWork(a) || noWork(b) || a == b) return BAD;
        remember();
        List<Integer> works = new ArrayList<>(town.works);
        works.set(a, town.works.get(b));
        works.set(b, town.works.get(a));
        town = town.works(works);
        return works.get(town.quarter % works.size());
    }

    public int undo() {
        if (past.isEmpty()) return NO;
        town = past.remove(past.size() - 1);
        return past.size();
    }

    public int behind(int n, int s, int what) {
        if (no(n, 0, 60) || noStreet(s) || no(what, 0, 1)) return BAD;
        Street then = town.after(n).at(s);
        return what == 0 ? then.wealth : then.stood;
    }

    private int firstOf(int from, int to, java.util.function.IntPredicate so) {
        for (int n = from; n <= to; n++) {
            if (so.test(n)) return n;
        }
        return NONE;
    }

    public int first(int s) {
        if (noStreet(s)) return BAD;
        return firstOf(1, 60, n -> town.after(n).chair == s);
    }

    public int even(int d) {
        if (no(d, 0, 99)) return BAD;
        return firstOf(0, 60, n -> town.after(n).most() - town.after(n).least() <= d);
    }

    private List<List<Integer>> orders(List<Integer> begun) {
        List<List<Integer>> all = new ArrayList<>();
        if (begun.size() == town.works.size()) {
            all.add(begun);
            return all;
        }
        for (int k = 0; k < town.works.size(); k++) {
            if (!begun.contains(k)) {
                List<Integer> more = new ArrayList<>(begun);
                more.add(k);
                all.addAll(orders(more));
            }
        }
        return all;
    }

    public int order(int n, int k) {
        if (no(n, 1, 40) || (k != -1 && noWork(k))) return BAD;
        int most = -1;
        List<Integer> best = null;
        for (List<Integer> order : orders(List.of())) {
            int much = town.works(order.stream().map(town.works::get).toList()).after(n).least();
            if (much > most) {
                most = much;
                best = order;
            }
        }
        return k == -1 ? most : best.get(k);
    }

    public int paint(int s) {
        if (noStreet(s)) return BAD;
        return firstOf(0, 40, m -> town.street(s, town.at(s).mud(m)).next(0).chair == s);
    }

    public int help(int g, int n, int what) {
        if (no(g, 1, 40) || no(n, 0, 40) || no(what, 0, 1)) return BAD;
        int most = -1;
        int which = -1;
        for (int s = town.streets.size() - 1; s >= 0; s--) {
            int much = town.street(s, town.at(s).wealth(town.at(s).wealth + g)).after(n).least();
            if (much >= most) {
                most = much;
                which = s;
            }
        }
        return what == 0 ? which : most;
    }

    public int seen(int n, int s) {
        if (no(n, 1, 40) || noStreet(s)) return BAD;
        if (seen.size() == 6) return FULL;
        seen.add(new int[] {n, s});
        return seen.size();
    }

    public int forget() {
        int were = seen.size();
        seen.clear();
        return were;
    }

    private int bits(int most, IntFunction<Town> as) {
        int bits = 0;
        for (int i = 0; i <= most; i++) {
            Town would = as.apply(i);
            if (seen.stream().allMatch(one -> would.after(one[0]).chair == one[1])) {
                bits += (int) Math.pow(2, i);
            }
        }
        return bits;
    }

    public int kinds(int s) {
        if (noStreet(s)) return BAD;
        Street t = town.at(s);
        return bits(3, i -> town.street(s, new Street(i, t.wealth, t.use, t.mud, t.stood)));
    }

    public int uses(int s) {
        if (noStreet(s)) return BAD;
        Street t = town.at(s);
        return bits(9, i -> town.street(s, new Street(t.kind, t.wealth, i, t.mud, t.stood)));
    }

    private static BigInteger chance(Town t, int s, int n, int x) {
        if (n == 0) {
            return t.chair == s ? BigInteger.ONE : BigInteger.ZERO;
        }
        BigInteger right = chance(t.next(0), s, n - 1, x).multiply(BigInteger.valueOf(10 - x));
        return right.add(chance(t.next(1), s, n - 1, x).multiply(BigInteger.valueOf(x)));
    }

    public int likely(int s, int n, int x, int part) {
        if (noStreet(s) || no(n, 1, 8) || no(x, 0, 10) || no(part, 0, 1)) return BAD;
        BigInteger above = chance(town, s, n, x);
        BigInteger below = BigInteger.TEN.pow(n);
        BigInteger common = above.gcd(below);
        return (part == 0 ? above : below).divide(common).intValueExact();
    }

    public int decade(int z, int n, int what) {
        if (no(z, 0, 9999) || no(n, 1, 60) || no(what, 0, 2)) return BAD;
        Town t = town;
        int m = t.streets.size();
        for (int q = 0; q < n; q++) {
            BigInteger x = BigInteger.valueOf(7919).multiply(BigInteger.valueOf(z)).add(BigInteger.valueOf(6151L * q + 1));
            int draw = x.pow(2).mod(BigInteger.valueOf(65521)).intValueExact() / 2;
            int s = draw % m;
            int to = draw / 64 % m;
            switch (draw / 8 % 4) {
                case 0 -> t = t.street(s, t.at(s).mud(draw / 64 % 12));
                case 1 -> t = t.canGive(s, to, 1) ? t.give(s, to, 1) : t;
                case 2 -> t = t.street(s, t.at(s).wealth(0));
                default -> { }
            }
            t = t.next(0);
        }
        return new int[] {t.all(), t.chair, t.fire - town.fire}[what];
    }

    public int keep() {
        if (kept.size() == 2) return FULL;
        kept.add(town);
        return kept.size();
    }

    public int back() {
        if (kept.isEmpty()) return NO;
        town = kept.remove(kept.size() - 1);
        past.clear();
        return kept.size();
    }

    public int count(int what) {
        if (no(what, 0, 10)) return BAD;
        return new int[] {town.streets.size(), town.works.size(), town.quarter, town.chair, town.all(), town.fire,
            town.quarter % town.works.size(), seen.size(), past.size(), kept.size(), text.length()}[what];
    }
}
