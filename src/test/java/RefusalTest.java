/**
 * Each method that may throw, with each mixture of right and wrong arguments in several states: which
 * exception it throws (the one that its throws clause names first), and that nothing is changed then.
 */
public final class RefusalTest {
    private static final int[] SETS = {Twins.LOW, -1, 0, 1, 2, 3, 23, 24, 1 << 30, Twins.HIGH};
    private static final int[] SITES = {Twins.LOW, -1, 0, 2, 5, 6, Twins.HIGH};
    private static final int[] KINDS = {Twins.LOW, -1, 0, 1, 2, 3, 4, Twins.HIGH};
    private static final int[] PARTS = {Twins.LOW, -1, 0, 1, 2, 3, 4, 5, Twins.HIGH};
    private static final int[] SPARE = {Twins.LOW, 0, 1, 2, 199, 200, 201, Twins.HIGH};
    private static final int[] MANY = {Twins.LOW, -1, 0, 1, 2, 3, 21, 22, 24, 25, Twins.HIGH};
    private static final int[] MONEY = {Twins.LOW, -1, 0, 1, 104, 105, 240, 241, 9999, 10000, Twins.HIGH};
    private static final int[] DAYS = {Twins.LOW, -1, 0, 1, 2, 98, 99, 100, Twins.HIGH};
    private static final int[] AHEAD = {Twins.LOW, -1, 0, 200, 201, Twins.HIGH};
    private static final int[] COSTS = {Twins.LOW, -1, 0, 9999, 10000, Twins.HIGH};
    private static final int[] SETTINGS = {Twins.LOW, -1, 0, 1, 2, Twins.HIGH};
    private static final int[] VALUES = {Twins.LOW, -1, 0, 1, 90, 91, 99, 100, Twins.HIGH};
    private static final int[] CODES = {Twins.LOW, 32, 33, 126, 127, Twins.HIGH};
    private static final int[] WHATS = {Twins.LOW, -1, 0, 4, 5, 7, 8, 9, 10, 13, 14, Twins.HIGH};

    /** Which of the states below is at hand. */
    private final int state;
    /** Its yard, to be read alone. */
    private final ScaffoldYard yard;

    private RefusalTest(int state) {
        this.state = state;
        yard = new ScaffoldYard();
        for (Twins.Call call : prepared()) {
            call.on(yard);
        }
    }

    public static void main(String[] args) {
        for (int state = 0; state < 3; state++) {
            RefusalTest test = new RefusalTest(state);
            test.theYard();
            test.setsAndSites();
            test.setsAndKinds();
            test.siteAndNumber();
            test.oneNumber();
            test.readings();
            test.withoutNumbers();
        }
        Check.finish("RefusalTest");
    }

    private Twins.Call[] prepared() {
        switch (state) {
            case 0:
                return new Twins.Call[0];
            case 1:
                return new Twins.Call[] {y -> y.buySets(3), y -> y.hire(2, 2), y -> y.bringShort(1, 1, 1),
                    y -> y.damage(1, 3, 1), y -> y.moveOn(0, 5), y -> y.buySpare(2, 200), y -> y.append('d'),
                    y -> y.append('0')};
            default:
                return full();
        }
    }

    /** 24 sets, 999 spare boards, the day 9999, 60 characters and more changes than are saved. */
    private static Twins.Call[] full() {
        Twins.Call[] calls = new Twins.Call[175];
        for (int i = 0; i < calls.length; i++) {
            int code = "b0;m5>2;".charAt(i % 8);
            calls[i] = i < 60 ? y -> y.append(code) : i < 161 ? y -> y.pass(99) : y -> y.set(1, 5);
        }
        calls[161] = y -> y.buySets(24);
        calls[162] = y -> y.hire(2, 23);
        calls[163] = y -> y.bringShort(1, 0, 2);
        calls[164] = y -> y.bring(2);
        calls[165] = y -> y.damage(2, 2, 1);
        for (int i = 166; i < 170; i++) {
            calls[i] = y -> y.buySpare(2, 200);
        }
        calls[170] = y -> y.buySpare(2, 199);
        return calls;
    }

    private void ask(String name, Class<? extends RuntimeException> due, Twins.Call call) {
        Twins t = new Twins("state " + state + ": " + name);
        for (Twins.Call step : prepared()) {
            t.after(step);
        }
        if (due == null) {
            t.after(call);
        } else {
            t.refuses(name, due, call);
        }
        t.end();
    }

    private static boolean within(int least, int number, int most) {
        return number >= least && number <= most;
    }

    private boolean isSet(int set) {
        return within(0, set, yard.count(0) - 1);
    }

    private boolean inYard(int set) {
        return yard.bundle(set, 0) == ScaffoldYard.NONE;
    }

    /** The first that applies: no such index, an argument out of range, a state that does not allow it. */
    private static Class<? extends RuntimeException> first(boolean index, boolean argument, boolean refused) {
        if (index) {
            return Twins.INDEX;
        }
        if (argument) {
            return Twins.ARGUMENT;
        }
        return refused ? Twins.STATE : null;
    }

    private void theYard() {
        for (int many : MANY) {
            ask("buySets " + many, first(false, !within(1, many, 24), yard.count(0) > 24 - many), y -> y.buySets(many));
        }
        for (int kind : KINDS) {
            for (int many : SPARE) {
                boolean known = within(0, kind, 3);
                ask("buySpare " + kind + ", " + many,
                        first(!known, !within(1, many, 200), known && yard.parts(kind, 1) > 999 - many),
                        y -> y.buySpare(kind, many));
            }
        }
        for (int set : SETS) {
            ask("repair " + set, first(!isSet(set), false, isSet(set) && !inYard(set)), y -> y.repair(set));
            ask("bring " + set, first(!isSet(set), false, isSet(set) && inYard(set)), y -> y.bring(set));
        }
    }

    private void setsAndSites() {
        for (int set : SETS) {
            for (int other : SETS) {
                boolean known = isSet(set) && isSet(other);
                ask("swap " + set + ", " + other, first(!known, false, known && !(inYard(set) && inYard(other))),
                        y -> y.swap(set, other));
            }
            for (int site : SITES) {
                boolean known = isSet(set) && within(0, site, 5);
                boolean refused = known && (inYard(set) || yard.bundle(set, 0) == site);
                ask("moveOn " + set + ", " + site, first(!known, false, refused), y -> y.moveOn(set, site));
                for (int cost : COSTS) {
                    ask("splitOn " + set + ", " + cost + ", " + site,
                            first(!known, !within(0, cost, 9999), false), y -> y.splitOn(set, cost, site));
                }
            }
        }
    }

    private void setsAndKinds() {
        for (int set : SETS) {
            for (int kind : KINDS) {
                boolean known = isSet(set) && within(0, kind, 3);
                for (int many : PARTS) {
                    boolean few = known && yard.bundle(set, 10 + kind) < many;
                    ask("damage " + set + ", " + kind + ", " + many,
                            first(!known, many < 1, few || known && !inYard(set)), y -> y.damage(set, kind, many));
                    ask("bringShort " + set + ", " + kind + ", " + many,
                            first(!known, many < 1, few || known && inYard(set)), y -> y.bringShort(set, kind, many));
                }
            }
        }
    }

    private void siteAndNumber() {
        for (int site : SITES) {
            boolean known = within(0, site, 5);
            for (int many : MANY) {
                ask("hire " + site + ", " + many, first(!known, !within(1, many, 24), yard.count(2) < many),
                        y -> y.hire(site, many));
            }
            for (int money : MONEY) {
                ask("pay " + site + ", " + money,
                        first(!known, !within(1, money, 9999), known && yard.site(site, 1) < money),
                        y -> y.pay(site, money));
            }
        }
    }

    private void oneNumber() {
        for (int days : DAYS) {
            ask("pass " + days, first(false, !within(1, days, 99), yard.count(3) > 9999 - days), y -> y.pass(days));
        }
        for (int setting : SETTINGS) {
            for (int value : VALUES) {
                boolean fits = setting == 0 ? within(0, value, 90) : within(1, value, 99);
                ask("set " + setting + ", " + value, first(!within(0, setting, 1), !fits, false),
                        y -> y.set(setting, value));
            }
            ask("setting " + setting, first(!within(0, setting, 1), false, false), y -> y.setting(setting));
        }
        for (int code : CODES) {
            ask("append " + code, first(false, !within(33, code, 126), state == 2), y -> y.append(code));
        }
    }

    private void readings() {
        for (int what : WHATS) {
            for (int set : SETS) {
                boolean named = within(0, what, 8) || within(10, what, 13);
                ask("bundle " + set + ", " + what, first(!isSet(set), !named, false), y -> y.bundle(set, what));
            }
            for (int site : SITES) {
                ask("site " + site + ", " + what, first(!within(0, site, 5), !within(0, what, 7), false),
                        y -> y.site(site, what));
            }
            for (int kind : KINDS) {
                ask("parts " + kind + ", " + what, first(!within(0, kind, 3), !within(0, what, 4), false),
                        y -> y.parts(kind, what));
            }
            ask("count " + what, first(false, !within(0, what, 9), false), y -> y.count(what));
        }
        for (int site : SITES) {
            ask("oldest " + site, first(!within(0, site, 5), false, false), y -> y.oldest(site));
        }
        for (int set : SETS) {
            for (int days : AHEAD) {
                ask("billIn " + set + ", " + days, first(!isSet(set), !within(0, days, 200), false),
                        y -> y.billIn(set, days));
            }
        }
    }

    private void withoutNumbers() {
        // the texts are "", "d0" and "b0;m5>2;" again and again, which does not end with an order
        ask("run", Twins.ARGUMENT, y -> y.run());
        ask("undo", state == 0 ? Twins.STATE : null, y -> y.undo());
        ask("clearBuffer", null, y -> y.clearBuffer());
        ask("firstError", null, y -> y.firstError());
        ask("ifRepaired", null, y -> y.ifRepaired());
        ask("hiredShare", null, y -> Double.doubleToLongBits(y.hiredShare()));
        ask("digest", null, y -> y.digest());
    }
}
