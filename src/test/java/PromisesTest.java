/** At least one test for each promise of the document, with its edges and wrong inputs. */
public final class PromisesTest {
    private static final Class<IndexOutOfBoundsException> INDEX = IndexOutOfBoundsException.class;
    private static final Class<IllegalArgumentException> ARGUMENT = IllegalArgumentException.class;
    private static final Class<IllegalStateException> STATE = IllegalStateException.class;
    private static final int LOW = Integer.MIN_VALUE;
    private static final int HIGH = Integer.MAX_VALUE;

    public static void main(String[] args) {
        newObject();
        buySets();
        buySpare();
        repair();
        damage();
        damageWithoutUsers();
        swap();
        hire();
        moveOn();
        moveOnBeginsTheTermAnew();
        bring();
        bringShort();
        pay();
        pass();
        settings();
        append();
        clearBuffer();
        firstError();
        firstErrorOfOrders();
        run();
        runAfterLongerText();
        runStops();
        runIsOneCall();
        undo();
        undoKeepsSix();
        undoOfEveryMethod();
        bundle();
        bundleUsers();
        site();
        parts();
        count();
        billIn();
        splitOn();
        oldest();
        ifRepaired();
        hiredShare();
        digest();
        digestOfNewObject();
        digestOfText();
        whatThrowsChangesNothing();
        Check.finish("PromisesTest");
    }

    private static ScaffoldYard yard(int sets) {
        ScaffoldYard y = new ScaffoldYard();
        y.buySets(sets);
        return y;
    }

    private static void write(ScaffoldYard y, String text) {
        for (int i = 0; i < text.length(); i++) {
            y.append(text.charAt(i));
        }
    }

    private static void same(String what, long want, long got) {
        Check.same(what, want, got);
    }

    private static void sameShare(String what, double want, double got) {
        Check.same(what, Double.doubleToLongBits(want), Double.doubleToLongBits(got));
    }

    // promise 1
    private static void newObject() {
        ScaffoldYard y = new ScaffoldYard();
        same("NONE", -1, ScaffoldYard.NONE);
        for (int what = 0; what <= 9; what++) {
            same("1: count " + what, 0, y.count(what));
        }
        same("1: setting 0", 14, y.setting(0));
        same("1: setting 1", 3, y.setting(1));
        for (int kind = 0; kind < 4; kind++) {
            for (int what = 0; what <= 4; what++) {
                same("1: parts", 0, y.parts(kind, what));
            }
        }
        for (int site = 0; site < 6; site++) {
            for (int what = 0; what <= 7; what++) {
                same("1: site", 0, y.site(site, what));
            }
            same("1: oldest", -1, y.oldest(site));
        }
        same("1: buffer", 0, y.clearBuffer());
        Check.fails("1: undo", STATE, () -> y.undo());
        Check.fails("1: bundle", INDEX, () -> y.bundle(0, 0));
    }

    // promise 2
    private static void buySets() {
        ScaffoldYard y = new ScaffoldYard();
        Check.fails("2: none", ARGUMENT, () -> y.buySets(0));
        Check.fails("2: too many", ARGUMENT, () -> y.buySets(25));
        Check.fails("2: low", ARGUMENT, () -> y.buySets(LOW));
        Check.fails("2: high", ARGUMENT, () -> y.buySets(HIGH));
        same("2: nothing saved", 0, y.count(9));
        y.pass(7);
        same("2: three", 3, y.buySets(3));
        same("2: paid", 3 * 205, y.count(8));
        same("2: in the yard", 3, y.count(1));
        same("2: whole", 1, y.bundle(2, 2));
        same("2: never left", 0, y.bundle(2, 1));
        same("2: standards", 2, y.bundle(2, 10));
        same("2: ledgers", 4, y.bundle(2, 11));
        same("2: boards", 3, y.bundle(2, 12));
        same("2: ties", 1, y.bundle(2, 13));
        Check.fails("2: one too many", STATE, () -> y.buySets(22));
        Check.fails("2: argument first", ARGUMENT, () -> y.buySets(25));
        same("2: all", 24, y.buySets(21));
        Check.fails("2: full", STATE, () -> y.buySets(1));
        same("2: saved", 3, y.count(9));
        same("2: all at once", 24, new ScaffoldYard().buySets(24));
    }

    // promise 3
    private static void buySpare() {
        ScaffoldYard y = new ScaffoldYard();
        Check.fails("3: kind 4", INDEX, () -> y.buySpare(4, 1));
        Check.fails("3: kind -1", INDEX, () -> y.buySpare(-1, 1));
        Check.fails("3: kind first", INDEX, () -> y.buySpare(LOW, 0));
        Check.fails("3: none", ARGUMENT, () -> y.buySpare(0, 0));
        Check.fails("3: 201", ARGUMENT, () -> y.buySpare(0, 201));
        Check.fails("3: high", ARGUMENT, () -> y.buySpare(3, HIGH));
        int[] price = {40, 15, 20, 5};
        int spent = 0;
        for (int kind = 0; kind < 4; kind++) {
            same("3: first", kind + 1, y.buySpare(kind, kind + 1));
            spent += price[kind] * (kind + 1);
            same("3: paid", spent, y.count(8));
            same("3: spare", kind + 1, y.parts(kind, 1));
        }
        for (int i = 0; i < 4; i++) {
            y.buySpare(0, 200);
        }
        Check.fails("3: 1000", STATE, () -> y.buySpare(0, 199));
        Check.fails("3: argument first", ARGUMENT, () -> y.buySpare(0, 201));
        same("3: 999", 999, y.buySpare(0, 198));
        Check.fails("3: full", STATE, () -> y.buySpare(0, 1));
        same("3: another kind", 3, y.buySpare(1, 1));
    }

    // promise 4
    private static void repair() {
        ScaffoldYard y = yard(3);
        Check.fails("4: no set", INDEX, () -> y.repair(3));
        Check.fails("4: set -1", INDEX, () -> y.repair(-1));
        same("4: whole", 0, y.repair(0));
        same("4: saved", 2, y.count(9));
        y.damage(0, 0, 2);
        y.damage(0, 1, 3);
        y.damage(0, 3, 1);
        same("4: no spare", 0, y.repair(0));
        y.buySpare(0, 1);
        y.buySpare(1, 5);
        y.buySpare(2, 5);
        same("4: as far as they go", 4, y.repair(0));
        same("4: standards", 1, y.bundle(0, 10));
        same("4: ledgers", 4, y.bundle(0, 11));
        same("4: boards", 3, y.bundle(0, 12));
        same("4: ties", 0, y.bundle(0, 13));
        same("4: spare standards", 0, y.parts(0, 1));
        same("4: spare ledgers", 2, y.parts(1, 1));
        same("4: spare boards", 5, y.parts(2, 1));
        same("4: not whole", 0, y.bundle(0, 2));
        y.hire(0, 1);
        Check.fails("4: on a site", STATE, () -> y.repair(1));
    }

    // promise 5
    private static void damage() {
        ScaffoldYard y = yard(1);
        y.hire(2, 1);
        Check.fails("5: on a site", STATE, () -> y.damage(0, 0, 1));
        Check.fails("5: no set", INDEX, () -> y.damage(1, 0, 1));
        Check.fails("5: set -1", INDEX, () -> y.damage(-1, 0, 0));
        Check.fails("5: no kind", INDEX, () -> y.damage(0, 4, 0));
        Check.fails("5: kind -1", INDEX, () -> y.damage(0, -1, 1));
        Check.fails("5: none", ARGUMENT, () -> y.damage(0, 0, 0));
        Check.fails("5: low", ARGUMENT, () -> y.damage(0, 0, LOW));
        y.moveOn(0, 3);
        y.moveOn(0, 2);
        y.bring(0);
        Check.fails("5: too many", STATE, () -> y.damage(0, 2, 4));
        Check.fails("5: high", STATE, () -> y.damage(0, 2, HIGH));
        same("5: cost", 40, y.damage(0, 2, 2));
        same("5: twice a user, and the rest", 27, y.site(2, 4));
        same("5: once a user", 13, y.site(3, 4));
        same("5: gone", 1, y.bundle(0, 12));
        same("5: charged", 2, y.parts(2, 2));
        same("5: not borne", 0, y.count(7));
        same("5: bill", 42 + 42 + 27, y.site(2, 1));
        same("5: no more", 20, y.damage(0, 2, 1));
        Check.fails("5: none left", STATE, () -> y.damage(0, 2, 1));
        same("5: 20 by three", 27 + 6 + 8, y.site(2, 4));
        same("5: 20 by three", 13 + 6, y.site(3, 4));
        same("5: all billed", 42 * 3 + 60, y.count(4));
        same("5: standards", 80, y.damage(0, 0, 2));
        same("5: ledgers", 15, y.damage(0, 1, 1));
        same("5: ties", 5, y.damage(0, 3, 1));
    }

    // promise 5
    private static void damageWithoutUsers() {
        ScaffoldYard y = yard(2);
        same("5: cost", 45, y.damage(1, 1, 3));
        same("5: borne", 45, y.count(7));
        same("5: nobody billed", 0, y.count(4));
        y.damage(1, 0, 1);
        same("5: borne too", 85, y.count(7));
        same("5: one user bears all", 3, yardWithOneUser().site(5, 4) - 37);
    }

    private static ScaffoldYard yardWithOneUser() {
        ScaffoldYard y = yard(1);
        y.hire(5, 1);
        y.bring(0);
        y.damage(0, 0, 1);
        return y;
    }

    // promise 6
    private static void swap() {
        ScaffoldYard y = yard(4);
        Check.fails("6: no set", INDEX, () -> y.swap(4, 0));
        Check.fails("6: no other", INDEX, () -> y.swap(0, 4));
        Check.fails("6: set -1", INDEX, () -> y.swap(-1, 0));
        Check.fails("6: other -1", INDEX, () -> y.swap(0, -1));
        y.hire(4, 1);
        Check.fails("6: set on a site", STATE, () -> y.swap(0, 1));
        Check.fails("6: other on a site", STATE, () -> y.swap(1, 0));
        Check.fails("6: no other first", INDEX, () -> y.swap(0, 9));
        y.pass(1);
        y.bring(0);
        y.damage(0, 0, 1);
        y.damage(0, 1, 3);
        y.damage(1, 2, 2);
        same("6: the set named first", 6, y.swap(1, 0));
        same("6: kinds", 1, y.bundle(1, 10));
        same("6: kinds", 1, y.bundle(1, 11));
        same("6: kinds", 3, y.bundle(1, 12));
        same("6: kinds", 2, y.bundle(0, 10));
        same("6: kinds", 4, y.bundle(0, 11));
        same("6: kinds", 1, y.bundle(0, 12));
        same("6: users stay", 4, y.bundle(0, 4));
        same("6: users stay", -1, y.bundle(1, 4));
        same("6: days stay", 1, y.bundle(0, 1));
        same("6: days stay", 0, y.bundle(1, 1));
        same("6: the set named first", 6, y.swap(1, 1));
        same("6: with itself", 6, y.bundle(1, 3));
        same("6: back", 6, y.swap(0, 1));
    }

    // promise 7
    private static void hire() {
        ScaffoldYard y = yard(6);
        Check.fails("7: no site", INDEX, () -> y.hire(6, 1));
        Check.fails("7: site -1", INDEX, () -> y.hire(-1, 0));
        Check.fails("7: none", ARGUMENT, () -> y.hire(0, 0));
        Check.fails("7: 25", ARGUMENT, () -> y.hire(0, 25));
        Check.fails("7: not so many", STATE, () -> y.hire(0, 7));
        y.damage(1, 3, 1);
        y.damage(3, 3, 1);
        Check.fails("7: not so many whole", STATE, () -> y.hire(0, 5));
        y.pass(3);
        same("7: left", 2, y.hire(5, 2));
        same("7: lowest", 5, y.bundle(0, 0));
        same("7: not whole", -1, y.bundle(1, 0));
        same("7: next", 5, y.bundle(2, 0));
        same("7: no more", -1, y.bundle(4, 0));
        same("7: came", 3, y.bundle(2, 1));
        same("7: user", 5, y.bundle(2, 4));
        same("7: hires", 2, y.count(6));
        same("7: nothing billed", 0, y.count(4));
        same("7: all", 0, y.hire(0, 2));
        same("7: lowest", 0, y.bundle(4, 0));
        Check.fails("7: none left", STATE, () -> y.hire(0, 1));
        ScaffoldYard full = yard(24);
        same("7: 24", 0, full.hire(3, 24));
    }

    // promise 8
    private static void moveOn() {
        ScaffoldYard y = yard(2);
        Check.fails("8: no set", INDEX, () -> y.moveOn(2, 0));
        Check.fails("8: no site", INDEX, () -> y.moveOn(0, 6));
        Check.fails("8: site -1", INDEX, () -> y.moveOn(0, -1));
        Check.fails("8: set -1", INDEX, () -> y.moveOn(-1, 0));
        Check.fails("8: in the yard", STATE, () -> y.moveOn(0, 1));
        y.hire(1, 1);
        Check.fails("8: on this site", STATE, () -> y.moveOn(0, 1));
        y.pass(20);
        same("8: billed", 60, y.moveOn(0, 2));
        same("8: by hires", 60, y.site(1, 2));
        same("8: not the other", 0, y.site(2, 1));
        same("8: where", 2, y.bundle(0, 0));
        same("8: since", 20, y.bundle(0, 1));
        same("8: hires", 2, y.count(6));
        same("8: sites", 2, y.bundle(0, 8));
    }

    // promise 8
    private static void moveOnBeginsTheTermAnew() {
        ScaffoldYard y = yard(1);
        y.hire(1, 1);
        y.pass(13);
        same("8: shortest term", 42, y.moveOn(0, 2));
        y.pass(1);
        same("8: anew", 42, y.moveOn(0, 1));
        y.pass(14);
        same("8: just the term", 42, y.moveOn(0, 3));
        y.pass(15);
        y.set(1, 10);
        y.set(0, 16);
        same("8: settings when it leaves", 160, y.moveOn(0, 4));
        y.set(0, 0);
        same("8: no term", 0, y.moveOn(0, 5));
        same("8: to a site again", 0, y.moveOn(0, 4));
    }

    // promise 9
    private static void bring() {
        ScaffoldYard y = yard(2);
        Check.fails("9: no set", INDEX, () -> y.bring(2));
        Check.fails("9: set -1", INDEX, () -> y.bring(-1));
        Check.fails("9: in the yard", STATE, () -> y.bring(0));
        y.hire(1, 2);
        y.pass(5);
        same("9: shortest term", 42, y.bring(0));
        y.pass(10);
        same("9: days", 45, y.bring(1));
        same("9: by hires", 87, y.site(1, 2));
        same("9: where", -1, y.bundle(1, 0));
        same("9: since", 15, y.bundle(1, 1));
        same("9: since", 5, y.bundle(0, 1));
        same("9: nothing missing", 1, y.bundle(1, 2));
        same("9: the user stays", 1, y.bundle(1, 4));
        same("9: hires stay", 2, y.count(6));
        Check.fails("9: again", STATE, () -> y.bring(0));
    }

    // promise 10
    private static void bringShort() {
        ScaffoldYard y = yard(2);
        Check.fails("10: no set", INDEX, () -> y.bringShort(2, 0, 1));
        Check.fails("10: set -1", INDEX, () -> y.bringShort(-1, 0, 1));
        Check.fails("10: no kind", INDEX, () -> y.bringShort(0, 4, 0));
        Check.fails("10: kind -1", INDEX, () -> y.bringShort(0, -1, 1));
        Check.fails("10: none", ARGUMENT, () -> y.bringShort(0, 0, 0));
        Check.fails("10: in the yard", STATE, () -> y.bringShort(0, 0, 1));
        y.hire(4, 2);
        y.moveOn(0, 3);
        Check.fails("10: too many", STATE, () -> y.bringShort(0, 1, 5));
        Check.fails("10: high", STATE, () -> y.bringShort(0, 3, HIGH));
        y.pass(20);
        same("10: all ledgers", 60 + 60, y.bringShort(0, 1, 4));
        same("10: by hires", 60, y.site(3, 2));
        same("10: by missing parts", 60, y.site(3, 3));
        same("10: by damage", 0, y.site(3, 4));
        same("10: not its earlier site", 42, y.site(4, 1));
        same("10: charged", 4, y.parts(1, 2));
        same("10: gone", 0, y.bundle(0, 11));
        same("10: where", -1, y.bundle(0, 0));
        same("10: since", 20, y.bundle(0, 1));
        same("10: not borne", 0, y.count(7));
        same("10: a standard", 60 + 40, y.bringShort(1, 0, 1));
        same("10: all billed", 42 + 120 + 100, y.count(4));
    }

    // promise 11
    private static void pay() {
        ScaffoldYard y = yard(24);
        Check.fails("11: no site", INDEX, () -> y.pay(6, 0));
        Check.fails("11: site -1", INDEX, () -> y.pay(-1, 1));
        Check.fails("11: nothing", ARGUMENT, () -> y.pay(0, 0));
        Check.fails("11: 10000", ARGUMENT, () -> y.pay(0, 10000));
        Check.fails("11: no bill", STATE, () -> y.pay(0, 1));
        y.hire(0, 1);
        y.bringShort(0, 0, 1);
        Check.fails("11: more than the bill", STATE, () -> y.pay(0, 83));
        same("11: left", 81, y.pay(0, 1));
        same("11: paid", 1, y.site(0, 5));
        same("11: all", 0, y.pay(0, 81));
        Check.fails("11: nothing left", STATE, () -> y.pay(0, 1));
        same("11: paid by all", 82, y.count(5));
        same("11: billed", 82, y.count(4));
        y.set(1, 99);
        y.hire(1, 23);
        y.pass(99);
        y.bring(1);
        y.bring(2);
        same("11: most", 2 * 99 * 99 - 9999, y.pay(1, 9999));
        same("11: paid", 9999, y.site(1, 5));
    }

    // promise 12
    private static void pass() {
        ScaffoldYard y = new ScaffoldYard();
        Check.fails("12: none", ARGUMENT, () -> y.pass(0));
        Check.fails("12: 100", ARGUMENT, () -> y.pass(100));
        Check.fails("12: low", ARGUMENT, () -> y.pass(LOW));
        same("12: 1", 1, y.pass(1));
        for (int i = 1; i <= 100; i++) {
            same("12: 99", 1 + 99 * i, y.pass(99));
        }
        Check.fails("12: 10000", STATE, () -> y.pass(99));
        Check.fails("12: argument first", ARGUMENT, () -> y.pass(100));
        same("12: 9999", 9999, y.pass(98));
        Check.fails("12: no later", STATE, () -> y.pass(1));
        same("12: day", 9999, y.count(3));
        same("12: as one call", 5, y.undo());
        same("12: undone", 9901, y.count(3));
    }

    // promises 13 and 23
    private static void settings() {
        ScaffoldYard y = new ScaffoldYard();
        Check.fails("13: setting 2", INDEX, () -> y.set(2, 5));
        Check.fails("13: setting -1", INDEX, () -> y.set(-1, LOW));
        Check.fails("13: term -1", ARGUMENT, () -> y.set(0, -1));
        Check.fails("13: term 91", ARGUMENT, () -> y.set(0, 91));
        Check.fails("13: rate 0", ARGUMENT, () -> y.set(1, 0));
        Check.fails("13: rate 100", ARGUMENT, () -> y.set(1, 100));
        Check.fails("23: setting 2", INDEX, () -> y.setting(2));
        Check.fails("23: setting -1", INDEX, () -> y.setting(-1));
        same("13: term", 14, y.set(0, 90));
        same("13: term", 90, y.set(0, 0));
        same("13: rate", 3, y.set(1, 99));
        same("13: rate", 99, y.set(1, 1));
        same("13: the same", 1, y.set(1, 1));
        same("13: saved", 5, y.count(9));
        same("23: term", 0, y.setting(0));
        same("23: rate", 1, y.setting(1));
    }

    // promise 14
    private static void append() {
        ScaffoldYard y = new ScaffoldYard();
        Check.fails("14: 32", ARGUMENT, () -> y.append(32));
        Check.fails("14: 127", ARGUMENT, () -> y.append(127));
        Check.fails("14: low", ARGUMENT, () -> y.append(LOW));
        same("14: 33", 1, y.append(33));
        same("14: 126", 2, y.append(126));
        for (int i = 3; i <= 60; i++) {
            same("14: length", i, y.append('d'));
        }
        Check.fails("14: full", STATE, () -> y.append('d'));
        Check.fails("14: argument first", ARGUMENT, () -> y.append(0));
        same("14: not undoable", 0, y.count(9));
    }

    // promise 15
    private static void clearBuffer() {
        ScaffoldYard y = new ScaffoldYard();
        same("15: empty", 0, y.clearBuffer());
        write(y, "d1x");
        same("15: three", 3, y.clearBuffer());
        same("15: cleared", 0, y.clearBuffer());
        same("15: anew", 1, y.append('d'));
        same("15: not undoable", 0, y.count(9));
    }

    private static void firstErrorOf(String text, int want) {
        ScaffoldYard y = new ScaffoldYard();
        write(y, text);
        same("16: " + text, want, y.firstError());
        same("16: again " + text, want, y.firstError());
        same("16: nothing is changed", text.length(), y.clearBuffer());
    }

    // promise 16
    private static void firstError() {
        String[] wrongAtEnd = {"x", "H", ";", "1", "hx", "h6", "h5>", "h5*0", "h5*x", "h5**", "h0*25",
            "h0*30", "h0*100", "h0*19;;", "m>", "mm", "m24", "m30", "m07", "m00", "m100", "m1*",
            "m23>6", "m23>x", "m5>00", "m5>5>", "b;", "bb", "b24", "b30", "b01", "b111", "b0;x",
            "b2>", "d0", "dd", "d100", "d990", "d1d", "d12;;", "d9*", "d1;h00", "h0*1!", "h0*1~"};
        for (String text : wrongAtEnd) {
            firstErrorOf(text, text.length() - 1);
            if (text.length() < 50) {
                firstErrorOf(text + "d1;d1", text.length() - 1);
            }
        }
        String[] right = {"", "h", "h0", "h5*", "h5*1", "h5*10", "h5*19", "h5*2", "h5*24", "h5*9", "h0*1;",
            "m", "m0", "m1", "m19", "m2", "m23", "m9>", "m23>5", "m23>5;", "b", "b0", "b9", "b19", "b23",
            "b23;", "d", "d1", "d9", "d10", "d99", "d99;", "d99;h", "b0;b0;b0;m0>0;h0*1;d1"};
        for (String text : right) {
            firstErrorOf(text, text.length());
        }
    }

    // promise 16
    private static void firstErrorOfOrders() {
        firstErrorOf("h0*24;m23>5;b23;d99;h5*9;m0>0;b0;d9;d10;b10;m10>1;h1*10;d1;b", 60);
        firstErrorOf("d1;d1;d1;d1;d1;d1;d1;d1;d1;d1;d1;d1;d1;d1;d1;d1;d1;d1;d1;d1;", 60);
        firstErrorOf("d1;d1;d1;d1;d1;d1;d1;d1;d1;d1;d1;d1;d1;d1;d1;d1;d1;d1;d1;d1x", 59);
    }

    private static void runFails(String text) {
        ScaffoldYard y = yard(3);
        write(y, text);
        Check.fails("17: " + text, ARGUMENT, () -> y.run());
        same("17: not cleared", text.length(), y.clearBuffer());
        same("17: nothing saved", 1, y.count(9));
        same("17: nothing done", 0, y.count(3) + y.count(6));
    }

    // promise 17
    private static void run() {
        String[] wrong = {"", "d", "d1;", "h0*1;m", "h0*", "h0", "m0>", "m2", "b", ";", "d1;;d1", "d0", "d100",
            "d1x", "h0*1;d1;b24", "h0*1 ".trim() + "!"};
        for (String text : wrong) {
            runFails(text);
        }
        ScaffoldYard y = yard(5);
        write(y, "h0*2;d20;m1>5;d3;b0;h3*12");
        same("17: done", 5, y.run());
        same("17: cleared", 0, y.clearBuffer());
        same("17: day", 23, y.count(3));
        same("17: hires", 3, y.count(6));
        same("17: moved on", 60, y.site(0, 2) - 69);
        same("17: where", 5, y.bundle(1, 0));
        same("17: brought", -1, y.bundle(0, 0));
        same("17: the last order is not carried out", 0, y.site(3, 0));
        write(y, "d99");
        same("17: one order", 1, y.run());
        write(y, "h5*4");
        same("17: all sets", 1, y.run());
        same("17: none left", 0, y.count(2));
    }

    /** What a longer text left behind in the buffer is not read. */
    private static void runAfterLongerText() {
        ScaffoldYard y = yard(24);
        write(y, "d19;h0*24");
        same("17: longer", 2, y.run());
        write(y, "d1");
        same("16: shorter", 2, y.firstError());
        same("17: shorter", 1, y.run());
        same("17: one day", 20, y.count(3));
        write(y, "m23>5;m2>");
        y.clearBuffer();
        write(y, "m2");
        same("16: shorter", 2, y.firstError());
        Check.fails("17: shorter", ARGUMENT, () -> y.run());
        y.clearBuffer();
        write(y, "b1");
        same("17: the set named", 1, y.run());
        same("17: the set named", -1, y.bundle(1, 0));
    }

    private static void runOn(int sets, String text, int want) {
        ScaffoldYard y = yard(sets);
        write(y, text);
        same("17: " + text, want, y.run());
        same("17: saved", 2, y.count(9));
        same("17: cleared", 0, y.clearBuffer());
    }

    // promise 17
    private static void runStops() {
        runOn(1, "b0;d1", 0);
        runOn(1, "b1;d1", 0);
        runOn(1, "m0>1;d1", 0);
        runOn(1, "m1>1;d1", 0);
        runOn(1, "h0*2;d1", 0);
        runOn(1, "h0*1;h0*1;d1", 1);
        runOn(1, "h0*1;m0>0;d1", 1);
        runOn(1, "h0*1;m0>1;m0>0;b0;b0;d1", 4);
        runOn(24, "h5*24;m23>4;m10>3;b23;b10;b9;d10", 7);
        runOn(1, "d1;d1;d1;d1;d1;d1;d1;d1;d1;d1;d1;d1;d1;d1;d1;d1;d1;d1;d1;d99", 20);
        ScaffoldYard y = yard(1);
        for (int i = 0; i < 101; i++) {
            y.pass(99);
        }
        write(y, "h0*1;d1;b0");
        same("17: the last day", 1, y.run());
        same("17: the last day", 9999, y.count(3));
        same("17: the hire stands", 0, y.bundle(0, 0));
    }

    // promises 17 and 18
    private static void runIsOneCall() {
        ScaffoldYard y = yard(2);
        write(y, "h0*1;d5;m0>1;b0");
        same("17: done", 4, y.run());
        write(y, "b0");
        same("17: none is carried out", 0, y.run());
        write(y, "d7");
        same("17: saved", 3, y.count(9));
        same("18: one call", 2, y.undo());
        same("18: that changed nothing", 5, y.count(3));
        same("18: one call", 1, y.undo());
        same("18: day", 0, y.count(3));
        same("18: hires", 0, y.count(6));
        same("18: billed", 0, y.count(4));
        same("18: users", -1, y.bundle(0, 4));
        same("18: the buffer stays", 2, y.clearBuffer());
    }

    // promise 18
    private static void undo() {
        ScaffoldYard y = new ScaffoldYard();
        Check.fails("18: none", STATE, () -> y.undo());
        y.buySets(2);
        y.hire(0, 2);
        y.pass(3);
        long before = y.digest();
        y.bringShort(0, 1, 2);
        y.undo();
        same("18: all restored", before, y.digest());
        same("18: left", 2, y.undo());
        same("18: day", 0, y.count(3));
        same("18: left", 1, y.undo());
        same("18: in the yard", 2, y.count(1));
        same("18: hires", 0, y.count(6));
        same("18: stays", 0, y.bundle(1, 8));
        same("18: left", 0, y.undo());
        same("18: sets", 0, y.count(0));
        same("18: paid", 0, y.count(8));
        Check.fails("18: no set", INDEX, () -> y.bundle(0, 0));
        Check.fails("18: none left", STATE, () -> y.undo());
        same("18: bought anew", 1, y.buySets(1));
        same("18: fresh", -1, y.bundle(0, 4));
        same("18: fresh", 0, y.bundle(0, 1));
    }

    // promise 18
    private static void undoKeepsSix() {
        ScaffoldYard y = new ScaffoldYard();
        for (int i = 1; i <= 8; i++) {
            y.pass(i);
            same("18: saved", Math.min(i, 6), y.count(9));
        }
        int day = 36;
        for (int i = 8; i > 2; i--) {
            same("18: left", i - 3, y.undo());
            day -= i;
            same("18: day", day, y.count(3));
        }
        Check.fails("18: the oldest are dropped", STATE, () -> y.undo());
        y.pass(50);
        y.pass(40);
        same("18: goes on", 1, y.undo());
        y.pass(1);
        same("18: goes on", 54, y.count(3));
        same("18: goes on", 1, y.undo());
        same("18: goes on", 0, y.undo());
        same("18: goes on", 3, y.count(3));
    }

    // promise 18
    private static void undoOfEveryMethod() {
        ScaffoldYard y = yard(3);
        y.hire(2, 2);
        y.bring(1);
        y.damage(2, 0, 1);
        y.buySpare(0, 3);
        write(y, "d3");
        undone(y, "buySets", () -> y.buySets(1));
        undone(y, "buySpare", () -> y.buySpare(2, 4));
        undone(y, "repair", () -> y.repair(2));
        undone(y, "damage", () -> y.damage(1, 1, 1));
        undone(y, "damage that the yard bears", () -> y.damage(2, 2, 1));
        undone(y, "swap", () -> y.swap(1, 2));
        undone(y, "hire", () -> y.hire(5, 1));
        undone(y, "moveOn", () -> y.moveOn(0, 4));
        undone(y, "bring", () -> y.bring(0));
        undone(y, "bringShort", () -> y.bringShort(0, 2, 3));
        undone(y, "pay", () -> y.pay(2, 42));
        undone(y, "pass", () -> y.pass(9));
        undone(y, "set", () -> y.set(1, 50));
        undone(y, "a set that changes nothing", () -> y.set(1, 3));
    }

    private static void undone(ScaffoldYard y, String name, Check.Call call) {
        long before = y.digest();
        int saved = y.count(9);
        call.answer();
        same("18: " + name + " saves", saved + 1, y.count(9));
        same("18: " + name + " is undone", saved, y.undo());
        same("18: after " + name, before, y.digest());
    }

    // promise 19
    private static void bundle() {
        ScaffoldYard y = yard(2);
        Check.fails("19: no set", INDEX, () -> y.bundle(2, 0));
        Check.fails("19: set -1", INDEX, () -> y.bundle(-1, 9));
        Check.fails("19: high", INDEX, () -> y.bundle(HIGH, 0));
        Check.fails("19: what -1", ARGUMENT, () -> y.bundle(0, -1));
        Check.fails("19: what 9", ARGUMENT, () -> y.bundle(0, 9));
        Check.fails("19: what 14", ARGUMENT, () -> y.bundle(0, 14));
        y.pass(2);
        y.hire(3, 1);
        same("19: where", 3, y.bundle(0, 0));
        same("19: in the yard", -1, y.bundle(1, 0));
        same("19: since", 2, y.bundle(0, 1));
        same("19: never left", 0, y.bundle(1, 1));
        same("19: whole", 1, y.bundle(0, 2));
        same("19: parts", 10, y.bundle(0, 3));
        same("19: shortest term", 42, y.bundle(0, 7));
        y.pass(14);
        same("19: just the term", 42, y.bundle(0, 7));
        y.pass(1);
        same("19: beyond the term", 45, y.bundle(0, 7));
        same("19: nothing in the yard", 0, y.bundle(1, 7));
        y.set(0, 20);
        y.set(1, 5);
        same("19: settings of today", 100, y.bundle(0, 7));
        same("19: on sites", 1, y.bundle(0, 8));
        same("19: on no site", 0, y.bundle(1, 8));
        y.damage(1, 1, 3);
        same("19: parts", 7, y.bundle(1, 3));
        same("19: not whole", 0, y.bundle(1, 2));
        same("19: ledgers", 1, y.bundle(1, 11));
        same("19: boards", 3, y.bundle(1, 12));
    }

    // promise 19
    private static void bundleUsers() {
        ScaffoldYard y = yard(1);
        int[] sites = {4, 2, 4, 5, 1};
        y.hire(sites[0], 1);
        for (int i = 1; i < sites.length; i++) {
            same("19: latest", sites[i - 1], y.bundle(0, 4));
            same("19: before it", i < 2 ? -1 : sites[i - 2], y.bundle(0, 5));
            same("19: the third", i < 3 ? -1 : sites[i - 3], y.bundle(0, 6));
            same("19: on sites", i, y.bundle(0, 8));
            y.moveOn(0, sites[i]);
        }
        y.bring(0);
        same("19: latest", 1, y.bundle(0, 4));
        y.hire(1, 1);
        same("19: a site again", 1, y.bundle(0, 4));
        same("19: a site again", 1, y.bundle(0, 5));
        same("19: a site again", 5, y.bundle(0, 6));
        same("19: on sites", 6, y.bundle(0, 8));
        ScaffoldYard all = yard(24);
        for (int set = 0; set < 24; set++) {
            all.hire(set % 6, 1);
            all.moveOn(set, (set + 1) % 6);
            all.moveOn(set, (set + 2) % 6);
        }
        for (int set = 0; set < 24; set++) {
            same("19: latest of " + set, (set + 2) % 6, all.bundle(set, 4));
            same("19: before it, of " + set, (set + 1) % 6, all.bundle(set, 5));
            same("19: the third of " + set, set % 6, all.bundle(set, 6));
        }
    }

    // promise 20
    private static void site() {
        ScaffoldYard y = yard(5);
        Check.fails("20: no site", INDEX, () -> y.site(6, 0));
        Check.fails("20: site -1", INDEX, () -> y.site(-1, 8));
        Check.fails("20: what -1", ARGUMENT, () -> y.site(0, -1));
        Check.fails("20: what 8", ARGUMENT, () -> y.site(0, 8));
        y.hire(1, 3);
        y.pass(10);
        y.hire(1, 2);
        same("20: sets", 5, y.site(1, 0));
        same("20: if all left", 5 * 42, y.site(1, 6));
        same("20: fewer days ago", 5, y.site(1, 7));
        y.pass(4);
        same("20: just the term", 2, y.site(1, 7));
        y.pass(6);
        same("20: if all left", 3 * 60 + 2 * 42, y.site(1, 6));
        y.set(0, 0);
        same("20: no term", 0, y.site(1, 7));
        same("20: if all left", 3 * 60 + 2 * 30, y.site(1, 6));
        y.bringShort(0, 0, 2);
        y.damage(0, 3, 1);
        y.pay(1, 15);
        same("20: sets", 4, y.site(1, 0));
        same("20: bill", 60 + 80 + 5 - 15, y.site(1, 1));
        same("20: by hires", 60, y.site(1, 2));
        same("20: by missing parts", 80, y.site(1, 3));
        same("20: by damage", 5, y.site(1, 4));
        same("20: paid", 15, y.site(1, 5));
        same("20: if all left", 2 * 60 + 2 * 30, y.site(1, 6));
        for (int what = 0; what <= 7; what++) {
            same("20: another site", 0, y.site(2, what));
        }
    }

    // promise 21
    private static void parts() {
        ScaffoldYard y = yard(2);
        Check.fails("21: no kind", INDEX, () -> y.parts(4, 0));
        Check.fails("21: kind -1", INDEX, () -> y.parts(-1, 5));
        Check.fails("21: what -1", ARGUMENT, () -> y.parts(0, -1));
        Check.fails("21: what 5", ARGUMENT, () -> y.parts(0, 5));
        y.buySpare(1, 3);
        y.damage(0, 1, 2);
        y.hire(0, 1);
        y.bringShort(1, 1, 4);
        partsAre(y, 1, 2, 3, 6, 11, 6);
        y.repair(0);
        partsAre(y, 1, 4, 1, 6, 11, 4);
        partsAre(y, 0, 4, 0, 0, 4, 0);
        partsAre(y, 2, 6, 0, 0, 6, 0);
        partsAre(y, 3, 2, 0, 0, 2, 0);
        y.repair(1);
        partsAre(y, 1, 5, 0, 6, 11, 3);
    }

    private static void partsAre(ScaffoldYard y, int kind, int inSets, int spare, int charged, int ever, int lacking) {
        same("21: in sets", inSets, y.parts(kind, 0));
        same("21: spare", spare, y.parts(kind, 1));
        same("21: charged", charged, y.parts(kind, 2));
        same("21: ever bought", ever, y.parts(kind, 3));
        same("21: lacking", lacking, y.parts(kind, 4));
    }

    // promise 22
    private static void count() {
        ScaffoldYard y = yard(4);
        Check.fails("22: what -1", ARGUMENT, () -> y.count(-1));
        Check.fails("22: what 10", ARGUMENT, () -> y.count(10));
        y.buySpare(0, 2);
        y.damage(3, 2, 1);
        y.hire(0, 2);
        y.pass(15);
        y.moveOn(0, 1);
        y.bringShort(0, 3, 1);
        y.damage(0, 0, 1);
        y.pay(1, 20);
        y.pay(0, 7);
        same("22: sets", 4, y.count(0));
        same("22: in the yard", 3, y.count(1));
        same("22: whole ones", 1, y.count(2));
        same("22: day", 15, y.count(3));
        same("22: billed", 45 + 42 + 5 + 40, y.count(4));
        same("22: paid", 27, y.count(5));
        same("22: hires", 3, y.count(6));
        same("22: borne", 20, y.count(7));
        same("22: bought", 4 * 205 + 80, y.count(8));
        same("22: saved", 6, y.count(9));
    }

    // promise 24
    private static void billIn() {
        ScaffoldYard y = yard(2);
        Check.fails("24: no set", INDEX, () -> y.billIn(2, 0));
        Check.fails("24: set -1", INDEX, () -> y.billIn(-1, 201));
        Check.fails("24: days -1", ARGUMENT, () -> y.billIn(0, -1));
        Check.fails("24: days 201", ARGUMENT, () -> y.billIn(0, 201));
        y.hire(0, 1);
        y.pass(4);
        same("24: today", 42, y.billIn(0, 0));
        same("24: the term", 42, y.billIn(0, 10));
        same("24: beyond it", 45, y.billIn(0, 11));
        same("24: 200", 612, y.billIn(0, 200));
        same("24: in the yard", 0, y.billIn(1, 200));
        same("24: nothing changed", 42, y.bundle(0, 7));
        for (int i = 0; i < 100; i++) {
            y.pass(99);
        }
        same("24: beyond the last day", (9904 + 200) * 3, y.billIn(0, 200));
    }

    // promise 25
    private static void splitOn() {
        ScaffoldYard y = yard(2);
        Check.fails("25: no set", INDEX, () -> y.splitOn(2, 0, 0));
        Check.fails("25: set -1", INDEX, () -> y.splitOn(-1, -1, 0));
        Check.fails("25: no site", INDEX, () -> y.splitOn(0, 10000, 6));
        Check.fails("25: site -1", INDEX, () -> y.splitOn(0, 0, -1));
        Check.fails("25: cost -1", ARGUMENT, () -> y.splitOn(0, -1, 0));
        Check.fails("25: cost 10000", ARGUMENT, () -> y.splitOn(0, 10000, 0));
        same("25: no users", 0, y.splitOn(0, 9999, 0));
        y.hire(0, 1);
        same("25: one", 9999, y.splitOn(0, 9999, 0));
        y.moveOn(0, 1);
        same("25: two", 51, y.splitOn(0, 101, 1));
        same("25: two", 50, y.splitOn(0, 101, 0));
        y.moveOn(0, 0);
        same("25: twice and the rest", 68, y.splitOn(0, 101, 0));
        same("25: once", 33, y.splitOn(0, 101, 1));
        y.moveOn(0, 5);
        same("25: twice no more", 33, y.splitOn(0, 101, 0));
        same("25: latest", 35, y.splitOn(0, 101, 5));
        same("25: once", 33, y.splitOn(0, 101, 1));
        y.bring(0);
        same("25: in the yard", 35, y.splitOn(0, 101, 5));
        same("25: only the rest", 2, y.splitOn(0, 2, 5));
        same("25: nothing", 0, y.splitOn(0, 2, 1));
        same("25: no cost", 0, y.splitOn(0, 0, 5));
        same("25: another site", 0, y.splitOn(0, 101, 3));
        same("25: nothing changed", 0, y.site(5, 4));
    }

    // promise 26
    private static void oldest() {
        ScaffoldYard y = yard(5);
        Check.fails("26: no site", INDEX, () -> y.oldest(6));
        Check.fails("26: site -1", INDEX, () -> y.oldest(-1));
        y.hire(0, 1);
        y.hire(1, 2);
        y.pass(1);
        y.moveOn(0, 1);
        y.pass(12);
        same("26: within the term", -1, y.oldest(1));
        y.pass(1);
        same("26: just at its end", 1, y.oldest(1));
        y.pass(1);
        same("26: came first, lowest number", 1, y.oldest(1));
        y.moveOn(1, 2);
        same("26: came first", 2, y.oldest(1));
        y.bring(2);
        same("26: next", 0, y.oldest(1));
        same("26: none", -1, y.oldest(0));
        same("26: just come", -1, y.oldest(2));
        y.set(0, 0);
        same("26: no term", 1, y.oldest(2));
    }

    // promise 27
    private static void ifRepaired() {
        ScaffoldYard y = yard(5);
        same("27: whole ones", 5, y.ifRepaired());
        y.damage(0, 0, 2);
        y.damage(1, 0, 1);
        y.damage(2, 1, 1);
        y.damage(3, 0, 1);
        y.damage(3, 1, 1);
        same("27: no spare", 1, y.ifRepaired());
        y.buySpare(0, 1);
        same("27: the first one takes it", 1, y.ifRepaired());
        y.buySpare(0, 2);
        same("27: two", 3, y.ifRepaired());
        y.buySpare(1, 1);
        same("27: three", 4, y.ifRepaired());
        y.buySpare(1, 1);
        same("27: the last lacks a standard", 4, y.ifRepaired());
        y.buySpare(0, 1);
        same("27: all", 5, y.ifRepaired());
        y.hire(0, 1);
        same("27: not those on sites", 4, y.ifRepaired());
        same("27: nothing changed", 4, y.parts(0, 1));
        same("27: nothing changed", 0, y.count(2));
    }

    // promise 28
    private static void hiredShare() {
        ScaffoldYard y = new ScaffoldYard();
        sameShare("28: without sets", 0.0, y.hiredShare());
        y.buySets(3);
        sameShare("28: none", 0.0, y.hiredShare());
        y.hire(0, 1);
        sameShare("28: a third", 1.0 / 3.0, y.hiredShare());
        y.hire(1, 1);
        sameShare("28: two thirds", 2.0 / 3.0, y.hiredShare());
        y.hire(1, 1);
        sameShare("28: all", 1.0, y.hiredShare());
        y.bring(2);
        sameShare("28: back", 2.0 / 3.0, y.hiredShare());
        ScaffoldYard one = yard(1);
        one.hire(0, 1);
        sameShare("28: the only one", 1.0, one.hiredShare());
    }

    private static ScaffoldYard hiredOneByOne(int sets, int hired) {
        ScaffoldYard y = yard(sets);
        y.buySpare(sets % 4, sets);
        y.damage(sets - 1, 2, 1);
        for (int set = 0; set < hired; set++) {
            y.hire(set % 6, 1);
        }
        return y;
    }

    private static ScaffoldYard allHired() {
        ScaffoldYard y = yard(24);
        y.hire(1, 24);
        y.pass(30);
        return y;
    }

    // promise 29
    private static void digest() {
        for (int sets = 1; sets <= 24; sets++) {
            for (int hired = 0; hired < sets; hired++) {
                int s = sets;
                int h = hired;
                long due = Digest.of(() -> hiredOneByOne(s, h), "");
                same("29: " + hired + " of " + sets, due, hiredOneByOne(sets, hired).digest());
            }
        }
        same("29: all hired", Digest.of(() -> allHired(), ""), allHired().digest());
    }

    // promise 29
    private static void digestOfNewObject() {
        same("29: new", Digest.of(ScaffoldYard::new, ""), new ScaffoldYard().digest());
    }

    private static ScaffoldYard oneHired() {
        ScaffoldYard y = yard(1);
        y.hire(0, 1);
        return y;
    }

    // promise 29
    private static void digestOfText() {
        ScaffoldYard y = oneHired();
        write(y, "~!d");
        same("29: text", Digest.of(() -> oneHired(), "~!d"), y.digest());
        same("29: again", y.digest(), y.digest());
        same("29: saved states", 2, y.count(9));
        y.clearBuffer();
        same("29: cleared", Digest.of(() -> oneHired(), ""), y.digest());
    }

    private static void whatThrowsChangesNothing() {
        ScaffoldYard y = yard(3);
        y.hire(0, 1);
        y.pass(2);
        y.damage(2, 0, 2);
        write(y, "d1;");
        Check.Call[] calls = {() -> y.buySets(22), () -> y.buySets(0), () -> y.buySpare(0, 201),
            () -> y.repair(0), () -> y.damage(2, 0, 1), () -> y.damage(0, 0, 1), () -> y.swap(0, 1),
            () -> y.hire(0, 2), () -> y.moveOn(1, 0), () -> y.moveOn(0, 0), () -> y.bring(1),
            () -> y.bringShort(0, 0, 3), () -> y.bringShort(1, 0, 1), () -> y.pay(0, 1), () -> y.pass(100),
            () -> y.set(0, 91), () -> y.append(32), () -> y.run(), () -> y.bundle(0, 9), () -> y.site(0, 8)};
        long before = y.digest();
        for (Check.Call call : calls) {
            try {
                call.answer();
                Check.report("a call did not throw");
            } catch (IllegalArgumentException | IllegalStateException e) {
                same("a call that throws", before, y.digest());
            }
        }
    }
}
