import java.math.BigInteger;
import java.util.ArrayList;
import java.util.Collections;
import java.util.HashMap;
import java.util.List;
import java.util.Map;

/**
 * A second, plain reading of the document, with which OracleTest compares the class: no shortcuts, everything by trying
 * all there is, formulas written out in full, numbers as BigIntegers.
 */
public final class Model {
    private static final class Person {
        int kind;
        int figure;
        int deputy = -1;
        int bound = -1;
        int[] likes = {10, 10, 10, 10, 10};

        Person(int kind, int figure) {
            this.kind = kind;
            this.figure = figure;
        }

        Person twin() {
            Person p = new Person(kind, figure);
            p.deputy = deputy;
            p.bound = bound;
            p.likes = likes.clone();
            return p;
        }
    }

    private static final class Two {
        int man;
        int woman;
        char state = 'g';
        int deeds;
        int waited;
        int ended = -4;

        Two twin() {
            Two t = new Two();
            t.man = man;
            t.woman = woman;
            t.state = state;
            t.deeds = deeds;
            return t;
        }
    }

    private static final class World {
        List<List<Person>> sides = List.of(new ArrayList<>(), new ArrayList<>());
        List<Two> twos = new ArrayList<>();
        int[] who = {1, 1, 1, 1, 1, 0};
        int slip = 60;
        int day;
        int passed;
        int done;
        List<Integer> slipDays = new ArrayList<>();

        World twin() {
            World w = new World();
            for (int s = 0; s < 2; s++) {
                for (Person p : sides.get(s)) {
                    w.sides.get(s).add(p.twin());
                }
            }
            for (Two t : twos) {
                w.twos.add(t.twin());
            }
            w.who = who.clone();
            w.slip = slip;
            w.day = day;
            return w;
        }

        Person of(int side, int k) {
            return sides.get(side).get(k);
        }

        boolean is(int side, int k) {
            return side >= 0 && side <= 1 && k >= 0 && k < sides.get(side).size();
        }

        int doer(int side, Two t) {
            int k = side == 0 ? t.man : t.woman;
            int first = of(side, k).deputy < 0 ? k : of(side, k).deputy;
            int second = of(side, first).deputy < 0 ? first : of(side, first).deputy;
            return new int[] {k, first, second}[who[t.deeds]];
        }

        void go(int n, List<Integer> order) {
            for (int i = 0; i < n; i++) {
                aDay(order);
            }
        }

        void aDay(List<Integer> order) {
            passed++;
            List<Person> acted = new ArrayList<>();
            for (int number : order) {
                Two t = twos.get(number);
                if (t.state != 'g') {
                    continue;
                }
                int m = doer(0, t);
                int w = doer(1, t);
                Person his = of(0, m);
                Person hers = of(1, w);
                if (his.bound >= 0 || hers.bound >= 0 || acted.contains(his) || acted.contains(hers)) {
                    t.waited++;
                    continue;
                }
                acted.add(his);
                acted.add(hers);
                boolean own = false;
                for (Two o : twos) {
                    own |= o.state == 'g' && o.man == m && o.woman == w;
                }
                his.likes[w] = Math.min(99, his.likes[w] + growth(his.kind, his.figure, own));
                hers.likes[m] = Math.min(99, hers.likes[m] + growth(hers.kind, hers.figure, own));
                for (Two o : twos) {
                    if (o.state == 'g' && o.woman == w && o.man != m) {
                        Person p = of(0, o.man);
                        p.likes[w] = Math.max(0, p.likes[w] - sulk(p.kind, p.figure));
                    }
                    if (o.state == 'g' && o.man == m && o.woman != w) {
                        Person p = of(1, o.woman);
                        p.likes[m] = Math.max(0, p.likes[m] - sulk(p.kind, p.figure));
                    }
                }
                if ((m != t.man || w != t.woman) && his.likes[w] > slip && hers.likes[m] > slip) {
                    his.bound = w;
                    hers.bound = m;
                    slipDays.add(passed);
                    t.state = 'l';
                    t.ended = passed;
                    lose(m, w);
                } else {
                    t.deeds++;
                    done++;
                    if (t.deeds == 6) {
                        t.state = 'w';
                        t.ended = passed;
                        of(0, t.man).bound = t.woman;
                        of(1, t.woman).bound = t.man;
                        lose(t.man, t.woman);
                    }
                }
            }
            day++;
        }

        void lose(int m, int w) {
            for (Two o : twos) {
                if (o.state == 'g' && (o.man == m || o.woman == w)) {
                    o.state = 'l';
                    o.ended = passed;
                }
            }
        }

        int how(char state) {
            int n = 0;
            for (Two t : twos) {
                n += t.state == state ? 1 : 0;
            }
            return n;
        }

        List<Integer> numbers() {
            List<Integer> all = new ArrayList<>();
            for (int i = 0; i < twos.size(); i++) {
                all.add(i);
            }
            return all;
        }

        World in(int n) {
            World w = twin();
            w.go(n, numbers());
            return w;
        }
    }

    static int growth(int kind, int figure, boolean own) {
        return new int[] {3, 5, 1, 5, 5 + figure, own ? 6 : 0}[kind];
    }

    static int sulk(int kind, int figure) {
        return new int[] {0, 0, 1, figure, 2 * figure, 0}[kind];
    }

    static int retold(int kind, int figure, int v) {
        int s = v - v / 4;
        int j = Math.max(0, s + 2 - figure);
        return new int[] {s, s + 2, s / 2, j, j + v, v}[kind];
    }

    static int costOf(int kind, int figure) {
        return new int[] {5, 7, 2, 7 + figure, 14 + 4 * figure, 5 + figure}[kind];
    }

    private World now = new World();
    private World image;
    /** Each shelf: null, an int[] of a kind and a figure, or a Row. */
    private final Object[] shelves = new Object[8];

    private static final class Row {
        int sort;
        long[] cells;
    }

    private boolean shelf(int d) {
        return d >= 0 && d < 8;
    }

    private boolean pair(int side, int k, int j) {
        return now.is(side, k) && now.is(1 - side, j);
    }

    private static int some(int k) {
        return k < 0 ? -4 : k;
    }

    private static boolean in(int v, int low, int high) {
        return v >= low && v <= high;
    }

    public int valley(int d) {
        if (!shelf(d)) {
            return -1;
        }
        if (shelves[d] == null) {
            return -11;
        }
        if (!(shelves[d] instanceof Row row) || row.sort != 0) {
            return -12;
        }
        StringBuilder text = new StringBuilder();
        for (long c : row.cells) {
            text.append(c < 0 ? '?' : (char) c);
        }
        String one = "[mwcasy][0-9]{2};|d[0-9]{3};|l[0-9]{5};";
        // the longest beginning that some whole text begins with
        int good = 0;
        for (int n = 1; n <= text.length(); n++) {
            boolean canGoOn = false;
            for (String tail : new String[] {"", ";", "0;", "00;", "000;", "0000;", "00000;"}) {
                canGoOn |= (text.substring(0, n) + tail).matches("(" + one + ")+");
            }
            if (canGoOn && good == n - 1) {
                good = n;
            }
        }
        if (good < text.length() || !text.toString().matches("(" + one + ")+")) {
            return -1000 - good;
        }
        World kept = now;
        now = kept.twin();
        int place = 0;
        int many = 0;
        for (String statement : text.toString().split(";")) {
            if (!does(statement)) {
                now = kept;
                return -2000 - place;
            }
            place += statement.length() + 1;
            many++;
        }
        return many;
    }

    private boolean does(String s) {
        int a = s.charAt(1) - '0';
        int b = s.charAt(2) - '0';
        int both = Integer.parseInt(s.substring(1, 3));
        switch (s.charAt(0)) {
            case 'm':
            case 'w':
                List<Person> side = now.sides.get(s.charAt(0) == 'm' ? 0 : 1);
                if (a > 5 || side.size() == 5) {
                    return false;
                }
                side.add(new Person(a, b));
                return true;
            case 'l':
                return like(a, b, s.charAt(3) - '0', Integer.parseInt(s.substring(4))) >= 0;
            case 'd':
                return sends(a, b, s.charAt(3) - '0') != -1;
            case 'c':
                return couple(a, b) >= 0;
            case 'a':
                return who(a, b) >= 0;
            case 's':
                return slip(both) >= 0;
            default:
                return days(both) >= 0;
        }
    }

    public int one(int side, int k, int what) {
        if (!now.is(side, k) || !in(what, 0, 4)) {
            return -1;
        }
        Person p = now.of(side, k);
        return new int[] {p.kind, p.figure, some(p.deputy), sulk(p.kind, p.figure), some(p.bound)}[what];
    }

    public int grows(int side, int k, int own) {
        return !now.is(side, k) || !in(own, 0, 1) ? -1 : growth(now.of(side, k).kind, now.of(side, k).figure, own == 1);
    }

    public int retells(int side, int k, int v) {
        return !now.is(side, k) || !in(v, 0, 99) ? -1 : retold(now.of(side, k).kind, now.of(side, k).figure, v);
    }

    public int comes(int d, int side) {
        if (!shelf(d) || !in(side, 0, 1)) {
            return -1;
        }
        if (shelves[d] == null) {
            return -11;
        }
        if (!(shelves[d] instanceof int[] one)) {
            return -12;
        }
        if (now.sides.get(side).size() == 5) {
            return -2;
        }
        now.sides.get(side).add(new Person(one[0], one[1]));
        return now.sides.get(side).size() - 1;
    }

    public int likes(int side, int k, int j) {
        return pair(side, k, j) ? now.of(side, k).likes[j] : -1;
    }

    public int like(int side, int k, int j, int v) {
        if (!pair(side, k, j) || !in(v, 0, 99)) {
            return -1;
        }
        int was = now.of(side, k).likes[j];
        now.of(side, k).likes[j] = v;
        return was;
    }

    public int sends(int side, int k, int j) {
        if (!now.is(side, k) || !now.is(side, j)) {
            return -1;
        }
        int was = now.of(side, k).deputy;
        now.of(side, k).deputy = k == j ? -1 : j;
        return some(was);
    }

    public int couple(int man, int woman) {
        if (!now.is(0, man) || !now.is(1, woman)) {
            return -1;
        }
        for (Two t : now.twos) {
            if (t.man == man && t.woman == woman) {
                return -3;
            }
        }
        if (now.of(0, man).bound >= 0 || now.of(1, woman).bound >= 0) {
            return -3;
        }
        if (now.twos.size() == 4) {
            return -2;
        }
        Two t = new Two();
        t.man = man;
        t.woman = woman;
        now.twos.add(t);
        return now.twos.size() - 1;
    }

    public int about(int couple, int what) {
        if (!in(couple, 0, now.twos.size() - 1) || !in(what, 0, 5)) {
            return -1;
        }
        Two t = now.twos.get(couple);
        if (what > 3) {
            return t.state != 'g' ? -4 : now.doer(what - 4, t);
        }
        return new int[] {t.man, t.woman, "gwl".indexOf(t.state), t.deeds}[what];
    }

    public int who(int deed, int w) {
        if (!in(deed, 0, 5) || !in(w, 0, 2)) {
            return -1;
        }
        int was = now.who[deed];
        now.who[deed] = w;
        return was;
    }

    public int slip(int v) {
        if (!in(v, 0, 99)) {
            return -1;
        }
        int was = now.slip;
        now.slip = v;
        return was;
    }

    public int days(int n) {
        if (!in(n, 1, 60)) {
            return -1;
        }
        if (now.day + n > 999) {
            return -3;
        }
        now = now.in(n);
        return now.done;
    }

    public int fate(int couple, int n, int what) {
        if (!in(couple, 0, now.twos.size() - 1) || !in(n, 0, 60) || !in(what, 0, 3)) {
            return -1;
        }
        Two t = now.in(n).twos.get(couple);
        return new int[] {"gwl".indexOf(t.state), t.deeds, t.waited, t.ended}[what];
    }

    public int then(int side, int k, int j, int n) {
        return !pair(side, k, j) || !in(n, 0, 60) ? -1 : now.in(n).of(side, k).likes[j];
    }

    public int bound(int side, int k, int n) {
        return !now.is(side, k) || !in(n, 0, 60) ? -1 : some(now.in(n).of(side, k).bound);
    }

    public int slips(int n, int what) {
        if (!in(n, 0, 60) || !in(what, 0, 1)) {
            return -1;
        }
        List<Integer> days = now.in(n).slipDays;
        return what == 0 ? days.size() : days.isEmpty() ? -4 : days.get(0);
    }

    public int soonest() {
        World w = now.twin();
        for (int n = 0; n <= 60; n++) {
            if (w.how('g') == 0) {
                return n;
            }
            w.go(1, w.numbers());
        }
        return -4;
    }

    private static void allOrders(List<Integer> begun, List<Integer> rest, List<List<Integer>> all) {
        if (rest.isEmpty()) {
            all.add(begun);
        }
        for (Integer next : rest) {
            List<Integer> longer = new ArrayList<>(begun);
            longer.add(next);
            List<Integer> shorter = new ArrayList<>(rest);
            shorter.remove(next);
            allOrders(longer, shorter, all);
        }
    }

    public int orders(int what) {
        if (!in(what, 0, 1)) {
            return -1;
        }
        if (now.twos.isEmpty()) {
            return -3;
        }
        List<List<Integer>> all = new ArrayList<>();
        allOrders(new ArrayList<>(), now.numbers(), all);
        int best = Integer.MAX_VALUE;
        int digits = Integer.MAX_VALUE;
        for (List<Integer> order : all) {
            World w = now.twin();
            w.go(60, order);
            int sum = 0;
            for (int i = 0; i < w.twos.size(); i++) {
                sum += now.twos.get(i).state == 'w' ? 0 : w.twos.get(i).state == 'w' ? w.twos.get(i).ended : 61;
            }
            int number = 0;
            for (int c : order) {
                number = number * 10 + c;
            }
            if (sum < best || sum == best && number < digits) {
                best = sum;
                digits = number;
            }
        }
        return what == 0 ? digits : best;
    }

    public int deputies(int couple, int what) {
        if (!in(couple, 0, now.twos.size() - 1) || !in(what, 0, 1)) {
            return -1;
        }
        int best = -4;
        int soonest = 1000;
        for (int code = 0; code <= 55; code++) {
            World w = now.twin();
            Two t = w.twos.get(couple);
            int m = code / 10 - 1;
            int f = code % 10 - 1;
            if (t.state != 'g' || m >= 0 && !w.is(0, m) || f >= 0 && !w.is(1, f) || m == t.man || f == t.woman) {
                continue;
            }
            w.of(0, t.man).deputy = m;
            w.of(1, t.woman).deputy = f;
            w.go(60, w.numbers());
            if (t.state == 'w' && t.ended < soonest) {
                soonest = t.ended;
                best = code;
            }
        }
        return best == -4 ? -4 : what == 0 ? best : soonest;
    }

    public int bestWho(int deed) {
        if (!in(deed, 0, 5)) {
            return -1;
        }
        List<Integer> wed = new ArrayList<>();
        for (int w = 0; w < 3; w++) {
            World other = now.twin();
            other.who[deed] = w;
            other.go(60, other.numbers());
            wed.add(other.how('w'));
        }
        return wed.indexOf(Collections.max(wed));
    }

    private int likeBoth(int m, int w) {
        return now.of(0, m).likes[w] + now.of(1, w).likes[m];
    }

    private int firstLeaving(List<Integer> wives) {
        for (int m = 0; m < now.sides.get(0).size(); m++) {
            for (int w = 0; w < now.sides.get(1).size(); w++) {
                int his = wives.get(m);
                int hers = wives.indexOf(w);
                boolean heWould = his < 0 || now.of(0, m).likes[w] > now.of(0, m).likes[his];
                boolean sheWould = hers < 0 || now.of(1, w).likes[m] > now.of(1, w).likes[hers];
                if (heWould && sheWould) {
                    return 10 * m + w;
                }
            }
        }
        return -4;
    }

    public int leave(int d) {
        if (!shelf(d)) {
            return -1;
        }
        if (shelves[d] == null) {
            return -11;
        }
        if (!(shelves[d] instanceof Row row)) {
            return -12;
        }
        List<Integer> wives = new ArrayList<>();
        for (long w : row.cells) {
            if (w < -1 || w >= now.sides.get(1).size() || w >= 0 && wives.contains((int) w)) {
                return -13;
            }
            wives.add((int) w);
        }
        return wives.size() != now.sides.get(0).size() ? -13 : firstLeaving(wives);
    }

    public int stable(int man) {
        if (!now.is(0, man)) {
            return -1;
        }
        int men = now.sides.get(0).size();
        List<List<Integer>> lists = new ArrayList<>();
        for (int m = 0; m < men; m++) {
            int him = m;
            List<Integer> wish = new ArrayList<>();
            for (int w = 0; w < now.sides.get(1).size(); w++) {
                wish.add(w);
            }
            wish.sort((a, b) -> now.of(0, him).likes[b] - now.of(0, him).likes[a]);
            lists.add(wish);
        }
        // each man stands at the head of his list; of those at one woman all but the one she likes most go on
        for (boolean moved = true; moved;) {
            moved = false;
            for (int a = 0; a < men; a++) {
                for (int b = 0; b < men; b++) {
                    if (a != b && !lists.get(a).isEmpty() && !lists.get(b).isEmpty()
                            && lists.get(a).get(0).equals(lists.get(b).get(0))) {
                        int[] her = now.of(1, lists.get(a).get(0)).likes;
                        int loser = her[a] > her[b] || her[a] == her[b] && a < b ? b : a;
                        lists.get(loser).remove(0);
                        moved = true;
                    }
                }
            }
        }
        return lists.get(man).isEmpty() ? -4 : lists.get(man).get(0);
    }

    private List<List<Integer>> allMatchings() {
        int men = now.sides.get(0).size();
        int women = now.sides.get(1).size();
        List<List<Integer>> all = new ArrayList<>();
        for (int code = 0; code < Math.pow(women + 1, men); code++) {
            List<Integer> wives = new ArrayList<>();
            int rest = code;
            int twos = 0;
            boolean twice = false;
            for (int m = 0; m < men; m++) {
                int w = rest % (women + 1);
                rest /= women + 1;
                w = w == women ? 9 : w;
                twice |= w != 9 && wives.contains(w);
                twos += w == 9 ? 0 : 1;
                wives.add(w);
            }
            if (!twice && twos == Math.min(men, women)) {
                all.add(wives);
            }
        }
        all.sort((a, b) -> a.toString().compareTo(b.toString()));
        all.forEach(wives -> wives.replaceAll(w -> w == 9 ? -1 : w));
        return all;
    }

    public int allStable() {
        int n = 0;
        for (List<Integer> wives : allMatchings()) {
            n += firstLeaving(wives) == -4 ? 1 : 0;
        }
        return n;
    }

    private int together(List<Integer> wives) {
        int sum = 0;
        for (int m = 0; m < wives.size(); m++) {
            sum += wives.get(m) < 0 ? 0 : likeBoth(m, wives.get(m));
        }
        return sum;
    }

    public int most() {
        int most = -1;
        for (List<Integer> wives : allMatchings()) {
            most = Math.max(most, together(wives));
        }
        return most;
    }

    public int mostOf(int man) {
        if (!now.is(0, man)) {
            return -1;
        }
        int most = most();
        for (List<Integer> wives : allMatchings()) {
            if (together(wives) == most) {
                return some(wives.get(man));
            }
        }
        throw new IllegalStateException();
    }

    private int through(int side, int k, int v) {
        int first = now.of(side, k).deputy;
        if (first < 0) {
            return v;
        }
        int once = retold(now.of(side, first).kind, now.of(side, first).figure, v);
        int second = now.of(side, first).deputy;
        return second < 0 ? once : retold(now.of(side, second).kind, now.of(side, second).figure, once);
    }

    public int report(int side, int k, int v) {
        return !now.is(side, k) || !in(v, 0, 99) ? -1 : through(side, k, v);
    }

    public int said(int side, int k, int w, int what) {
        if (!now.is(side, k) || !in(w, 0, 999) || !in(what, 0, 1)) {
            return -1;
        }
        List<Integer> fit = new ArrayList<>();
        for (int v = 0; v <= 99; v++) {
            if (through(side, k, v) == w) {
                fit.add(v);
            }
        }
        return what == 0 ? fit.size() : fit.isEmpty() ? -4 : fit.get(0);
    }

    public int learnt(int d, int what) {
        if (!shelf(d) || !in(what, 0, 1)) {
            return -1;
        }
        if (shelves[d] == null) {
            return -11;
        }
        if (!(shelves[d] instanceof Row row)) {
            return -12;
        }
        int bits = 0;
        int many = 0;
        for (int kind = 0; kind < 6; kind++) {
            for (int figure = 0; figure < 10; figure++) {
                boolean fits = true;
                for (long added : row.cells) {
                    fits &= added == growth(kind, figure, true);
                }
                many += fits ? 1 : 0;
                bits |= fits ? 1 << kind : 0;
            }
        }
        return what == 0 ? bits : many;
    }

    public int chain(int side, int k, int what) {
        if (!now.is(side, k) || !in(what, 0, 1)) {
            return -1;
        }
        List<Integer> standing = new ArrayList<>(List.of(k));
        int next = now.of(side, k).deputy;
        while (next >= 0 && !standing.contains(next)) {
            standing.add(next);
            next = now.of(side, next).deputy;
        }
        return what == 0 ? standing.size() - 1 : next >= 0 ? 1 : 0;
    }

    private static int tell(BigInteger number, int i) {
        String digits = number.toString();
        return i == -1 ? digits.length() : i >= digits.length() ? 0 : digits.charAt(digits.length() - 1 - i) - '0';
    }

    private static BigInteger ordersOf(List<Integer> left, Map<List<Integer>, BigInteger> known) {
        if (known.containsKey(left)) {
            return known.get(left);
        }
        BigInteger sum = BigInteger.ZERO;
        boolean any = false;
        for (int i = 0; i < left.size(); i++) {
            if (left.get(i) > 0) {
                any = true;
                List<Integer> less = new ArrayList<>(left);
                less.set(i, left.get(i) - 1);
                sum = sum.add(ordersOf(less, known));
            }
        }
        known.put(left, any ? sum : BigInteger.ONE);
        return known.get(left);
    }

    public int ways(int i) {
        if (i < -1) {
            return -1;
        }
        List<Integer> left = new ArrayList<>();
        for (Two t : now.twos) {
            left.add(t.state == 'g' ? 6 - t.deeds : 0);
        }
        return tell(ordersOf(left, new HashMap<>()), i);
    }

    public int thaw(int couple, int n, int t, int i) {
        if (!in(couple, 0, now.twos.size() - 1) || !in(n, 0, 60) || !in(t, 1, 9) || i < -1) {
            return -1;
        }
        if (now.twos.get(couple).state != 'g') {
            return -3;
        }
        BigInteger sum = BigInteger.ZERO;
        BigInteger choose = BigInteger.ONE;
        for (int k = 0; k <= n; k++) {
            if (k >= 6 - now.twos.get(couple).deeds) {
                sum = sum.add(choose.multiply(BigInteger.valueOf(t).pow(k)).multiply(BigInteger.valueOf(10 - t).pow(n - k)));
            }
            choose = choose.multiply(BigInteger.valueOf(n - k)).divide(BigInteger.valueOf(k + 1));
        }
        return tell(sum, i);
    }

    public int judge(int side, int k, int j, int d) {
        if (!pair(side, k, j) || !shelf(d)) {
            return -1;
        }
        if (shelves[d] == null) {
            return -11;
        }
        if (!(shelves[d] instanceof Row row)) {
            return -12;
        }
        long least = new long[] {Byte.MIN_VALUE, Integer.MIN_VALUE, Long.MIN_VALUE}[row.sort];
        for (int p = 0; p < row.cells.length; p++) {
            if (row.cells[p] != least && (p > 60 || row.cells[p] != then(side, k, j, p))) {
                return p;
            }
        }
        return -4;
    }

    public int seeds(int n, int z, int what) {
        if (!in(n, 1, 20) || !in(what, 0, 1)) {
            return -1;
        }
        int seed = z;
        int wed = 0;
        int slips = 0;
        for (int i = 0; i < n; i++) {
            World w = now.twin();
            for (int side = 0; side < 2; side++) {
                for (Person p : w.sides.get(side)) {
                    for (int j = 0; j < w.sides.get(1 - side).size(); j++) {
                        seed = seed * 1103515245 + 12345;
                        p.likes[j] = (seed & Integer.MAX_VALUE) / 65536 % 60;
                    }
                }
            }
            w.go(30, w.numbers());
            wed += w.how('w');
            slips += w.slipDays.size();
        }
        return what == 0 ? wed : slips;
    }

    public int image() {
        image = now.twin();
        return now.day;
    }

    public int restore() {
        if (image == null) {
            return -3;
        }
        now = image.twin();
        return now.day;
    }

    public int count(int what) {
        int[] all = {now.sides.get(0).size(), now.sides.get(1).size(), now.twos.size(), now.day, now.slip, now.how('g'),
            now.how('w'), now.how('l')};
        return in(what, 0, 7) ? all[what] : -1;
    }

    public int keep(int d, int what, int k, int figure) {
        if (!shelf(d) || !in(what, 0, 1) || what == 1 && (!in(k, 0, 5) || !in(figure, 0, 9))) {
            return -1;
        }
        shelves[d] = what == 0 ? null : new int[] {k, figure};
        return 0;
    }

    public int row(int d, int sort, int n) {
        if (!shelf(d) || !in(sort, 0, 2) || n > 100) {
            return -1;
        }
        if (n < 0) {
            return -14;
        }
        Row row = new Row();
        row.sort = sort;
        row.cells = new long[n];
        shelves[d] = row;
        return 0;
    }

    public int put(int d, int i, int v) {
        if (!shelf(d)) {
            return -1;
        }
        if (shelves[d] == null) {
            return -11;
        }
        if (!(shelves[d] instanceof Row row)) {
            return -12;
        }
        if (!in(i, 0, row.cells.length - 1)) {
            return -13;
        }
        row.cells[i] = row.sort == 0 ? (byte) v : v;
        return 0;
    }

    public long element(int d, int i) {
        if (!shelf(d)) {
            throw new IllegalArgumentException();
        }
        if (!(shelves[d] instanceof Row row) || !in(i, 0, row.cells.length - 1)) {
            throw new IllegalStateException();
        }
        return row.cells[i];
    }

    public int copy(int d, int i, int e, int j, int n) {
        if (!shelf(d) || !shelf(e)) {
            return -1;
        }
        if (shelves[d] == null || shelves[e] == null) {
            return -11;
        }
        if (!(shelves[d] instanceof Row from) || !(shelves[e] instanceof Row to) || from.sort != to.sort) {
            return -12;
        }
        if (i < 0 || j < 0 || n < 0 || (long) i + n > from.cells.length || (long) j + n > to.cells.length) {
            return -13;
        }
        long[] taken = from.cells.clone();
        for (int k = 0; k < n; k++) {
            to.cells[j + k] = taken[i + k];
        }
        return n;
    }

    public int cost(int d) {
        return !shelf(d) ? -1 : shelves[d] == null ? -11 : shelves[d] instanceof int[] one ? costOf(one[0], one[1]) : -12;
    }

    public int toss(int d) {
        if (!shelf(d) || shelves[d] == null || !(shelves[d] instanceof int[] one)) {
            return cost(d);
        }
        if (one[1] == 0 || one[0] == 5) {
            return -15;
        }
        return new int[] {one[1], one[1], one[1], 100 + one[1], 200 + costOf(4, one[1])}[one[0]];
    }
}
