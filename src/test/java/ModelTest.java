import java.util.ArrayList;
import java.util.List;

/** Long runs of calls, ordinary and wrong ones, on the class and on YardModel side by side. */
public final class ModelTest {
    private static final int RUNS = 800;
    /** What later calls answer is free. */
    private static final int CALLS = 512;
    private static final int[] WILD = {Integer.MIN_VALUE, -2, -1, 0, 1, 6, 24, 25, 99, 100, 200, 201,
        9999, 10000, 1 << 30, Integer.MAX_VALUE};

    /** A row of numbers that is the same in each run of the test. */
    private long seed;
    private final ScaffoldYard yard = new ScaffoldYard();
    private final YardModel model = new YardModel();
    private final List<String> calls = new ArrayList<>();

    private ModelTest(long seed) {
        this.seed = seed;
    }

    public static void main(String[] args) {
        for (int run = 1; run <= RUNS && Check.wrongSoFar() == 0; run++) {
            new ModelTest(run * 7919L).play(run % 4);
        }
        Check.finish("ModelTest");
    }

    private int below(int bound) {
        seed = seed * 6364136223846793005L + 1442695040888963407L;
        return (int) ((seed >>> 33) % bound);
    }

    /** From low to high, at times one beyond, at times far off. */
    private int number(int low, int high) {
        int dice = below(60);
        if (dice == 0) {
            return low - 1;
        }
        if (dice == 1) {
            return high + 1;
        }
        if (dice == 2) {
            return WILD[below(WILD.length)];
        }
        return low + below(high - low + 1);
    }

    private int set() {
        return number(0, Math.max(0, model.count(0) - 1));
    }

    private void play(int style) {
        if (style == 1) {
            both("buySets(24)", () -> yard.buySets(24), () -> model.buySets(24));
        }
        while (calls.size() < CALLS && Check.wrongSoFar() == 0) {
            step(style);
            both("digest()", yard::digest, model::digest);
        }
    }

    private void step(int style) {
        int dice = below(100);
        if (dice < 30) {
            stepInYard(style);
        } else if (dice < 68) {
            stepOfHires(style);
        } else if (dice < 82) {
            stepOfTexts();
        } else {
            stepOfReading();
        }
    }

    private void stepInYard(int style) {
        int a = set();
        int b = set();
        int kind = number(0, 3);
        int many = number(1, style == 2 ? 24 : 3);
        int few = number(1, 2);
        int lot = number(1, 200);
        switch (below(style == 3 ? 4 : 7)) {
            case 0 -> both("buySets(" + many + ")", () -> yard.buySets(many), () -> model.buySets(many));
            case 1 -> both("buySpare(" + kind + ", " + few + ")", () -> yard.buySpare(kind, few),
                    () -> model.buySpare(kind, few));
            case 2, 4 -> both("damage(" + a + ", " + kind + ", " + few + ")", () -> yard.damage(a, kind, few),
                    () -> model.damage(a, kind, few));
            case 3 -> both("buySpare(" + kind + ", " + lot + ")", () -> yard.buySpare(kind, lot),
                    () -> model.buySpare(kind, lot));
            case 5 -> both("swap(" + a + ", " + b + ")", () -> yard.swap(a, b), () -> model.swap(a, b));
            default -> both("repair(" + a + ")", () -> yard.repair(a), () -> model.repair(a));
        }
    }

    private void stepOfHires(int style) {
        int a = set();
        int site = number(0, 5);
        int kind = number(0, 3);
        int few = number(1, 3);
        int money = number(1, Math.max(1, Math.min(9999, model.site(Math.floorMod(site, 6), 1))));
        int days = number(1, style == 0 ? 20 : 99);
        int setting = number(0, 1);
        int value = setting == 0 ? number(0, 90) : number(1, 99);
        switch (below(10)) {
            case 0, 1 -> both("hire(" + site + ", " + few + ")", () -> yard.hire(site, few),
                    () -> model.hire(site, few));
            case 2, 3 -> both("moveOn(" + a + ", " + site + ")", () -> yard.moveOn(a, site),
                    () -> model.moveOn(a, site));
            case 4 -> both("bring(" + a + ")", () -> yard.bring(a), () -> model.bring(a));
            case 5 -> both("bringShort(" + a + ", " + kind + ", " + few + ")",
                    () -> yard.bringShort(a, kind, few), () -> model.bringShort(a, kind, few));
            case 6 -> both("pay(" + site + ", " + money + ")", () -> yard.pay(site, money),
                    () -> model.pay(site, money));
            case 7, 8 -> both("pass(" + days + ")", () -> yard.pass(days), () -> model.pass(days));
            default -> both("set(" + setting + ", " + value + ")", () -> yard.set(setting, value),
                    () -> model.set(setting, value));
        }
    }

    private void stepOfTexts() {
        int code = number(33, 126);
        switch (below(8)) {
            case 0 -> both("append(" + code + ")", () -> yard.append(code), () -> model.append(code));
            case 1 -> both("clearBuffer()", yard::clearBuffer, model::clearBuffer);
            case 2, 3 -> both("undo()", yard::undo, model::undo);
            case 4 -> {
                appendAll(below(2) == 0 ? someText() : ";" + someText());
                both("firstError()", yard::firstError, model::firstError);
            }
            default -> {
                both("clearBuffer()", yard::clearBuffer, model::clearBuffer);
                appendAll(someText());
                both("firstError()", yard::firstError, model::firstError);
                both("run()", yard::run, model::run);
            }
        }
    }

    private String someText() {
        StringBuilder text = new StringBuilder(order());
        for (int more = below(8); more > 0; more--) {
            text.append(';').append(order());
        }
        if (below(8) == 0) {
            text.setCharAt(below(text.length()), "hmbd*>;0123456789".charAt(below(17)));
        }
        return text.toString();
    }

    private String order() {
        return switch (below(5)) {
            case 0 -> "h" + number(0, 5) + "*" + number(1, below(4) == 0 ? 24 : 2);
            case 1, 2 -> "m" + set() + ">" + number(0, 5);
            case 3 -> "b" + set();
            default -> "d" + number(1, 99);
        };
    }

    private void appendAll(String text) {
        for (char c : text.toCharArray()) {
            both("append('" + c + "')", () -> yard.append(c), () -> model.append(c));
        }
    }

    private void stepOfReading() {
        int a = set();
        int site = number(0, 5);
        int kind = number(0, 3);
        int what = number(0, 13);
        int days = number(0, 200);
        int cost = number(0, below(2) == 0 ? 9 : 9999);
        both("bundle(" + a + ", " + what + ")", () -> yard.bundle(a, what), () -> model.bundle(a, what));
        both("site(" + site + ", " + what + ")", () -> yard.site(site, what), () -> model.site(site, what));
        both("parts(" + kind + ", " + what + ")", () -> yard.parts(kind, what), () -> model.parts(kind, what));
        both("count(" + what + ")", () -> yard.count(what), () -> model.count(what));
        both("setting(" + kind + ")", () -> yard.setting(kind), () -> model.setting(kind));
        both("billIn(" + a + ", " + days + ")", () -> yard.billIn(a, days), () -> model.billIn(a, days));
        both("splitOn(" + a + ", " + cost + ", " + site + ")", () -> yard.splitOn(a, cost, site),
                () -> model.splitOn(a, cost, site));
        both("oldest(" + site + ")", () -> yard.oldest(site), () -> model.oldest(site));
        both("ifRepaired()", yard::ifRepaired, model::ifRepaired);
        both("hiredShare()", () -> Double.doubleToLongBits(yard.hiredShare()),
                () -> Double.doubleToLongBits(model.hiredShare()));
    }

    private static String answerOf(Check.Call call) {
        try {
            return String.valueOf(call.answer());
        } catch (RuntimeException e) {
            return e.getClass().getName();
        }
    }

    private void both(String name, Check.Call ours, Check.Call due) {
        if (calls.size() >= CALLS) {
            return;
        }
        String want = answerOf(due);
        String got = answerOf(ours);
        calls.add(name + " " + want);
        if (!want.equals(got)) {
            Check.report(name + " answered " + got + ", due is " + want + ", after " + calls);
        }
    }
}
