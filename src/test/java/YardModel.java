import java.util.ArrayDeque;
import java.util.ArrayList;
import java.util.Deque;
import java.util.HashSet;
import java.util.List;
import java.util.Set;

/**
 * The document told once more, as plainly as the Java library allows and in another way than the
 * class: objects and lists, copies for undo, and all orders written out for the texts.
 */
final class YardModel {
    static final int[] WHOLE = {2, 4, 3, 1};
    static final int[] PRICE = {40, 15, 20, 5};
    private static final Set<String> ORDERS = allOrders();
    private static final Set<String> BEGINNINGS = beginnings();

    private static final class Bundle {
        Integer site;
        int came;
        int[] parts = WHOLE.clone();
        List<Integer> users = new ArrayList<>();

        Bundle copy() {
            Bundle b = new Bundle();
            b.site = site;
            b.came = came;
            b.parts = parts.clone();
            b.users = new ArrayList<>(users);
            return b;
        }

        boolean whole() {
            return java.util.Arrays.equals(parts, WHOLE);
        }

        List<Integer> lastUsers() {
            List<Integer> last = new ArrayList<>();
            for (int i = users.size() - 1; i >= 0 && last.size() < 3; i--) {
                last.add(users.get(i));
            }
            return last;
        }
    }

    private static final class State {
        List<Bundle> sets = new ArrayList<>();
        int day;
        int[] settings = {14, 3};
        int[] spare = new int[4];
        int[] bought = new int[4];
        long[][] sites = new long[6][4];
        int borne;
        int spent;
        int hires;

        State copy() {
            State s = new State();
            for (Bundle b : sets) {
                s.sets.add(b.copy());
            }
            s.day = day;
            s.settings = settings.clone();
            s.spare = spare.clone();
            s.bought = bought.clone();
            for (int i = 0; i < 6; i++) {
                s.sites[i] = sites[i].clone();
            }
            s.borne = borne;
            s.spent = spent;
            s.hires = hires;
            return s;
        }
    }

    private State s = new State();
    private final Deque<State> saved = new ArrayDeque<>();
    private String buffer = "";

    private static Set<String> allOrders() {
        Set<String> all = new HashSet<>();
        for (int site = 0; site < 6; site++) {
            for (int n = 1; n <= 24; n++) {
                all.add("h" + site + "*" + n);
                all.add("m" + (n - 1) + ">" + site);
            }
        }
        for (int n = 1; n <= 99; n++) {
            all.add("d" + n);
            if (n <= 24) {
                all.add("b" + (n - 1));
            }
        }
        return all;
    }

    private static Set<String> beginnings() {
        Set<String> all = new HashSet<>();
        for (String order : ORDERS) {
            for (int i = 0; i <= order.length(); i++) {
                all.add(order.substring(0, i));
            }
        }
        return all;
    }

    private static void index(boolean fine) {
        if (!fine) {
            throw new IndexOutOfBoundsException();
        }
    }

    private static void argument(boolean fine) {
        if (!fine) {
            throw new IllegalArgumentException();
        }
    }

    private static void state(boolean fine) {
        if (!fine) {
            throw new IllegalStateException();
        }
    }

    private static boolean in(int x, int low, int high) {
        return low <= x && x <= high;
    }

    private Bundle find(int set) {
        index(in(set, 0, s.sets.size() - 1));
        return s.sets.get(set);
    }

    private void save() {
        saved.addLast(s.copy());
        if (saved.size() > 6) {
            saved.removeFirst();
        }
    }

    int buySets(int many) {
        argument(in(many, 1, 24));
        state(s.sets.size() + many <= 24);
        save();
        for (int i = 0; i < many; i++) {
            s.sets.add(new Bundle());
            for (int kind = 0; kind < 4; kind++) {
                s.bought[kind] += WHOLE[kind];
            }
        }
        s.spent += 205 * many;
        return s.sets.size();
    }

    int buySpare(int kind, int many) {
        index(in(kind, 0, 3));
        argument(in(many, 1, 200));
        state(s.spare[kind] + many <= 999);
        save();
        s.spent += many * PRICE[kind];
        s.bought[kind] += many;
        return s.spare[kind] += many;
    }

    private int fill(Bundle b, int[] spare) {
        int put = 0;
        for (int kind = 0; kind < 4; kind++) {
            while (b.parts[kind] < WHOLE[kind] && spare[kind] > 0) {
                b.parts[kind]++;
                spare[kind]--;
                put++;
            }
        }
        return put;
    }

    int repair(int set) {
        Bundle b = find(set);
        state(b.site == null);
        save();
        return fill(b, s.spare);
    }

    int damage(int set, int kind, int many) {
        Bundle b = find(set);
        index(in(kind, 0, 3));
        argument(many >= 1);
        state(b.site == null && b.parts[kind] >= many);
        save();
        b.parts[kind] -= many;
        int cost = many * PRICE[kind];
        List<Integer> users = b.lastUsers();
        if (users.isEmpty()) {
            s.borne += cost;
        } else {
            for (int user : users) {
                s.sites[user][2] += cost / users.size();
            }
            s.sites[users.get(0)][2] += cost % users.size();
        }
        return cost;
    }

    int swap(int set, int other) {
        Bundle a = find(set);
        Bundle b = find(other);
        state(a.site == null && b.site == null);
        save();
        int[] parts = a.parts;
        a.parts = b.parts;
        b.parts = parts;
        return sum(a.parts);
    }

    private static int sum(int[] row) {
        int all = 0;
        for (int x : row) {
            all += x;
        }
        return all;
    }

    private int wholeInYard() {
        return (int) s.sets.stream().filter(b -> b.site == null && b.whole()).count();
    }

    int hire(int site, int many) {
        index(in(site, 0, 5));
        argument(in(many, 1, 24));
        state(wholeInYard() >= many);
        save();
        return doHire(site, many);
    }

    private int doHire(int site, int many) {
        state(wholeInYard() >= many);
        s.sets.stream().filter(b -> b.site == null && b.whole()).limit(many).toList()
                .forEach(b -> comeTo(b, site));
        return wholeInYard();
    }

    private void comeTo(Bundle b, int site) {
        b.site = site;
        b.came = s.day;
        b.users.add(site);
        s.hires++;
    }

    private int bill(Bundle b, int days) {
        return b.site == null ? 0 : Math.max(s.settings[0], s.day + days - b.came) * s.settings[1];
    }

    private int leave(Bundle b) {
        int bill = bill(b, 0);
        s.sites[b.site][0] += bill;
        b.site = null;
        b.came = s.day;
        return bill;
    }

    int moveOn(int set, int site) {
        Bundle b = find(set);
        index(in(site, 0, 5));
        state(b.site != null && b.site != site);
        save();
        return doMoveOn(set, site);
    }

    private int doMoveOn(int set, int site) {
        Bundle b = find(set);
        state(b.site != null && b.site != site);
        int bill = leave(b);
        comeTo(b, site);
        return bill;
    }

    int bring(int set) {
        Bundle b = find(set);
        state(b.site != null);
        save();
        return leave(b);
    }

    private int doBring(int set) {
        Bundle b = find(set);
        state(b.site != null);
        return leave(b);
    }

    int bringShort(int set, int kind, int many) {
        Bundle b = find(set);
        index(in(kind, 0, 3));
        argument(many >= 1);
        state(b.site != null && b.parts[kind] >= many);
        save();
        b.parts[kind] -= many;
        s.sites[b.site][1] += many * PRICE[kind];
        return leave(b) + many * PRICE[kind];
    }

    int pay(int site, int money) {
        index(in(site, 0, 5));
        argument(in(money, 1, 9999));
        state(site(site, 1) >= money);
        save();
        s.sites[site][3] += money;
        return site(site, 1);
    }

    int pass(int days) {
        argument(in(days, 1, 99));
        state(s.day + days <= 9999);
        save();
        return doPass(days);
    }

    private int doPass(int days) {
        state(s.day + days <= 9999);
        return s.day += days;
    }

    int set(int setting, int value) {
        index(in(setting, 0, 1));
        argument(setting == 0 ? in(value, 0, 90) : in(value, 1, 99));
        save();
        int previous = s.settings[setting];
        s.settings[setting] = value;
        return previous;
    }

    int append(int code) {
        argument(in(code, 33, 126));
        state(buffer.length() < 60);
        buffer += (char) code;
        return buffer.length();
    }

    int clearBuffer() {
        int length = buffer.length();
        buffer = "";
        return length;
    }

    private static boolean isBeginning(String text) {
        String[] orders = text.split(";", -1);
        for (int i = 0; i < orders.length - 1; i++) {
            if (!ORDERS.contains(orders[i])) {
                return false;
            }
        }
        return BEGINNINGS.contains(orders[orders.length - 1]);
    }

    int firstError() {
        for (int i = 0; i < buffer.length(); i++) {
            if (!isBeginning(buffer.substring(0, i + 1))) {
                return i;
            }
        }
        return buffer.length();
    }

    int run() {
        String[] orders = buffer.split(";", -1);
        for (String order : orders) {
            argument(ORDERS.contains(order));
        }
        save();
        buffer = "";
        int done = 0;
        try {
            for (String order : orders) {
                carryOut(order);
                done++;
            }
        } catch (IndexOutOfBoundsException | IllegalStateException e) {
            return done;
        }
        return done;
    }

    private void carryOut(String order) {
        String[] numbers = order.substring(1).split("[*>]");
        int first = Integer.parseInt(numbers[0]);
        switch (order.charAt(0)) {
            case 'h' -> doHire(first, Integer.parseInt(numbers[1]));
            case 'm' -> doMoveOn(first, Integer.parseInt(numbers[1]));
            case 'b' -> doBring(first);
            default -> doPass(first);
        }
    }

    int undo() {
        state(!saved.isEmpty());
        s = saved.removeLast();
        return saved.size();
    }

    int bundle(int set, int what) {
        Bundle b = find(set);
        argument(in(what, 0, 8) || in(what, 10, 13));
        List<Integer> users = b.lastUsers();
        return switch (what) {
            case 0 -> b.site == null ? -1 : b.site;
            case 1 -> b.came;
            case 2 -> b.whole() ? 1 : 0;
            case 3 -> sum(b.parts);
            case 4, 5, 6 -> users.size() > what - 4 ? users.get(what - 4) : -1;
            case 7 -> bill(b, 0);
            case 8 -> b.users.size();
            default -> b.parts[what - 10];
        };
    }

    private List<Bundle> on(int site) {
        return s.sets.stream().filter(b -> b.site != null && b.site == site).toList();
    }

    int site(int site, int what) {
        index(in(site, 0, 5));
        argument(in(what, 0, 7));
        long[] account = s.sites[site];
        return (int) switch (what) {
            case 0 -> on(site).size();
            case 1 -> account[0] + account[1] + account[2] - account[3];
            case 2, 3, 4, 5 -> account[what - 2];
            case 6 -> on(site).stream().mapToInt(b -> bill(b, 0)).sum();
            default -> on(site).stream().filter(b -> s.day - b.came < s.settings[0]).count();
        };
    }

    int parts(int kind, int what) {
        index(in(kind, 0, 3));
        argument(in(what, 0, 4));
        int inSets = s.sets.stream().mapToInt(b -> b.parts[kind]).sum();
        return switch (what) {
            case 0 -> inSets;
            case 1 -> s.spare[kind];
            case 2 -> s.bought[kind] - inSets - s.spare[kind];
            case 3 -> s.bought[kind];
            default -> s.sets.size() * WHOLE[kind] - inSets;
        };
    }

    int count(int what) {
        argument(in(what, 0, 9));
        long billed = 0;
        long paid = 0;
        for (long[] account : s.sites) {
            billed += account[0] + account[1] + account[2];
            paid += account[3];
        }
        return (int) switch (what) {
            case 0 -> s.sets.size();
            case 1 -> s.sets.stream().filter(b -> b.site == null).count();
            case 2 -> wholeInYard();
            case 3 -> s.day;
            case 4 -> billed;
            case 5 -> paid;
            case 6 -> s.hires;
            case 7 -> s.borne;
            case 8 -> s.spent;
            default -> saved.size();
        };
    }

    int setting(int setting) {
        index(in(setting, 0, 1));
        return s.settings[setting];
    }

    int billIn(int set, int days) {
        Bundle b = find(set);
        argument(in(days, 0, 200));
        return bill(b, days);
    }

    int splitOn(int set, int cost, int site) {
        Bundle b = find(set);
        index(in(site, 0, 5));
        argument(in(cost, 0, 9999));
        List<Integer> users = b.lastUsers();
        int share = 0;
        for (int i = 0; i < users.size(); i++) {
            if (users.get(i) == site) {
                share += cost / users.size() + (i == 0 ? cost % users.size() : 0);
            }
        }
        return share;
    }

    int oldest(int site) {
        index(in(site, 0, 5));
        for (int day = 0; day <= s.day - s.settings[0]; day++) {
            for (Bundle b : on(site)) {
                if (b.came == day) {
                    return s.sets.indexOf(b);
                }
            }
        }
        return -1;
    }

    int ifRepaired() {
        State then = s.copy();
        int whole = 0;
        for (Bundle b : then.sets) {
            if (b.site == null) {
                fill(b, then.spare);
                whole += b.whole() ? 1 : 0;
            }
        }
        return whole;
    }

    double hiredShare() {
        return s.sets.isEmpty() ? 0.0 : (double) (count(0) - count(1)) / count(0);
    }

    long digest() {
        List<Long> values = new ArrayList<>();
        for (int what = 0; what <= 9; what++) {
            values.add((long) count(what));
        }
        values.add((long) setting(0));
        values.add((long) setting(1));
        for (int set = 0; set < s.sets.size(); set++) {
            for (int what = 0; what <= 13; what++) {
                if (what != 9) {
                    values.add((long) bundle(set, what));
                }
            }
            values.add((long) billIn(set, 30));
            for (int site = 0; site < 6; site++) {
                values.add((long) splitOn(set, 100, site));
            }
        }
        for (int site = 0; site < 6; site++) {
            for (int what = 0; what <= 7; what++) {
                values.add((long) site(site, what));
            }
            values.add((long) oldest(site));
        }
        for (int kind = 0; kind < 4; kind++) {
            for (int what = 0; what <= 4; what++) {
                values.add((long) parts(kind, what));
            }
        }
        values.add((long) ifRepaired());
        values.add(Double.doubleToLongBits(hiredShare()));
        values.add((long) buffer.length());
        for (char c : buffer.toCharArray()) {
            values.add((long) c);
        }
        long hash = 2549;
        for (long value : values) {
            hash = 31 * hash + value;
        }
        return hash;
    }
}
