/** The boundaries that the promises 7 to 13 name: hires, bills and settings. */
public final class HireBoundsTest {
    public static void main(String[] args) {
        hireMany();
        hireNotSoMany();
        hireLowestWholeOnes();
        moveOnWhichSetAndSite();
        moveOnFromTheYardOrToThisSite();
        moveOnBills();
        bringWhichSet();
        bringFromASite();
        bringShortAtLeastOne();
        bringShortSoManyParts();
        bringShortWhere();
        bringShortBills();
        payMoney();
        payNoMoreThanTheBill();
        payFullBill();
        passDays();
        passUpTo9999();
        passIsOneCall();
        setWhich();
        setValues();
        Check.finish("HireBoundsTest");
    }

    // promise 7: "many: 1 to 24"
    private static void hireMany() {
        Twins t = new Twins("7: many").after(y -> y.buySets(24));
        for (int many : new int[] {Twins.LOW, -1, 0, 25, Twins.HIGH}) {
            t.refuses("many is " + many, Twins.ARGUMENT, y -> y.hire(0, many));
            t.refuses("site first, " + many, Twins.INDEX, y -> y.hire(6, many));
            t.refuses("site first, " + many, Twins.INDEX, y -> y.hire(-1, many));
        }
        t.due("1", 23, y -> y.hire(0, 1)).after(y -> y.undo()).due("24", 0, y -> y.hire(5, 24));
        t.refuses("argument first", Twins.ARGUMENT, y -> y.hire(0, 25));
        t.refuses("argument first", Twins.ARGUMENT, y -> y.hire(0, 0));
        t.refuses("site first", Twins.INDEX, y -> y.hire(6, 1)).due("hires", 24, y -> y.count(6));
        t.end();
    }

    // promise 7: "if there are not so many whole sets in the yard"
    private static void hireNotSoMany() {
        for (int sets = 1; sets <= 24; sets++) {
            int s = sets;
            Twins t = new Twins("7: of " + s).after(y -> y.buySets(s));
            if (s < 24) {
                t.refuses("one more", Twins.STATE, y -> y.hire(1, s + 1));
            }
            t.due("all", 0, y -> y.hire(1, s)).refuses("none left", Twins.STATE, y -> y.hire(1, 1));
            t.after(y -> y.bring(s - 1)).after(y -> y.damage(s - 1, 3, 1));
            t.refuses("one that is not whole", Twins.STATE, y -> y.hire(1, 1));
            t.after(y -> y.buySpare(3, 1)).after(y -> y.repair(s - 1)).due("whole again", 0, y -> y.hire(2, 1));
            t.end();
        }
    }

    // promise 7: "the whole ones in the yard with the lowest numbers"
    private static void hireLowestWholeOnes() {
        Twins t = new Twins("7: lowest").after(y -> y.buySets(24)).after(y -> y.damage(0, 0, 1));
        t.after(y -> y.damage(22, 3, 1)).refuses("23 of 22", Twins.STATE, y -> y.hire(0, 23));
        t.due("one", 21, y -> y.hire(3, 1)).due("not 0", -1, y -> y.bundle(0, 0)).due("but 1", 3, y -> y.bundle(1, 0));
        t.due("20 more", 1, y -> y.hire(4, 20)).due("not 22", -1, y -> y.bundle(22, 0));
        t.due("not yet 23", -1, y -> y.bundle(23, 0)).due("the last one", 0, y -> y.hire(5, 1));
        t.due("23", 5, y -> y.bundle(23, 0)).due("hires", 22, y -> y.count(6)).after(y -> y.bring(7));
        t.due("the one that came back", 0, y -> y.hire(0, 1)).due("7", 0, y -> y.bundle(7, 0));
        t.due("nobody is billed by coming", 42, y -> y.count(4));
        t.end();
    }

    // promise 8: "if there is no such set or site"
    private static void moveOnWhichSetAndSite() {
        Twins t = new Twins("8: which").after(y -> y.buySets(3)).after(y -> y.hire(0, 2));
        for (int wrong : new int[] {Twins.LOW, -1, 24, Twins.HIGH}) {
            t.refuses("no set " + wrong, Twins.INDEX, y -> y.moveOn(wrong, 1));
            t.refuses("no site " + wrong, Twins.INDEX, y -> y.moveOn(0, wrong));
            t.refuses("site first, in the yard", Twins.INDEX, y -> y.moveOn(2, wrong));
            t.refuses("neither " + wrong, Twins.INDEX, y -> y.moveOn(wrong, wrong));
        }
        t.refuses("no set 3", Twins.INDEX, y -> y.moveOn(3, 0)).refuses("no site 6", Twins.INDEX, y -> y.moveOn(0, 6));
        t.due("the last site", 42, y -> y.moveOn(1, 5)).due("the first site", 42, y -> y.moveOn(1, 0));
        t.end();
    }

    // promise 8: "if it is in the yard, or on this site"
    private static void moveOnFromTheYardOrToThisSite() {
        Twins t = new Twins("8: from where").after(y -> y.buySets(1));
        t.refuses("in the yard", Twins.STATE, y -> y.moveOn(0, 0)).after(y -> y.hire(0, 1));
        for (int site = 1; site <= 6; site++) {
            int from = site - 1;
            int to = site % 6;
            t.refuses("on this site", Twins.STATE, y -> y.moveOn(0, from)).due("on", 42, y -> y.moveOn(0, to));
            t.refuses("on this site", Twins.STATE, y -> y.moveOn(0, to)).due("where", to, y -> y.bundle(0, 0));
        }
        t.after(y -> y.bring(0)).refuses("back in the yard", Twins.STATE, y -> y.moveOn(0, 1));
        t.due("stays", 7, y -> y.bundle(0, 8)).due("hires", 7, y -> y.count(6));
        t.end();
    }

    // promise 8: "what the site that it leaves is billed for"
    private static void moveOnBills() {
        for (int days = 12; days <= 16; days++) {
            int bill = Math.max(14, days) * 3;
            Twins t = new Twins("8: after " + days).after(y -> y.buySets(2)).after(y -> y.hire(2, 2)).passTo(days);
            t.due("bill", bill, y -> y.moveOn(1, 3)).due("it leaves", bill, y -> y.site(2, 1));
            t.due("it comes to", 0, y -> y.site(3, 1)).due("all", bill, y -> y.count(4));
            t.due("begins anew", 42, y -> y.bundle(1, 7)).due("the other one stays", bill, y -> y.bundle(0, 7));
            t.due("still whole", 1, y -> y.bundle(1, 2));
            t.end();
        }
    }

    // promise 9: "if there is no such set"
    private static void bringWhichSet() {
        Twins t = new Twins("9: which").after(y -> y.buySets(24)).after(y -> y.hire(0, 24));
        for (int set : new int[] {Twins.LOW, -1, 24, 25, 1 << 30, Twins.HIGH}) {
            t.refuses("no set " + set, Twins.INDEX, y -> y.bring(set));
        }
        t.due("the first", 42, y -> y.bring(0)).due("the last", 42, y -> y.bring(23)).due("two", 2, y -> y.count(2));
        t.end();
    }

    // promise 9: "if it is in the yard"
    private static void bringFromASite() {
        Twins t = new Twins("9: from a site").after(y -> y.buySets(2)).refuses("yard", Twins.STATE, y -> y.bring(0));
        t.after(y -> y.hire(0, 1)).refuses("the other is there", Twins.STATE, y -> y.bring(1)).passTo(14);
        t.due("just the term", 42, y -> y.bring(0)).refuses("back", Twins.STATE, y -> y.bring(0));
        t.after(y -> y.undo()).passTo(15).due("a day more", 45, y -> y.bring(0)).due("day", 15, y -> y.bundle(0, 1));
        t.due("nothing is missing", 1, y -> y.bundle(0, 2)).due("nothing is charged", 0, y -> y.parts(0, 2));
        t.end();
    }

    // promise 10: "at least 1"
    private static void bringShortAtLeastOne() {
        Twins t = new Twins("10: at least 1").after(y -> y.buySets(2)).after(y -> y.hire(0, 1));
        for (int many : new int[] {Twins.LOW, -1, 0}) {
            t.refuses("on a site, " + many, Twins.ARGUMENT, y -> y.bringShort(0, 0, many));
            t.refuses("argument first, " + many, Twins.ARGUMENT, y -> y.bringShort(1, 0, many));
            t.refuses("kind first, " + many, Twins.INDEX, y -> y.bringShort(0, 4, many));
            t.refuses("kind first, " + many, Twins.INDEX, y -> y.bringShort(1, -1, many));
            t.refuses("set first, " + many, Twins.INDEX, y -> y.bringShort(2, 0, many));
            t.refuses("set first, " + many, Twins.INDEX, y -> y.bringShort(-1, 0, many));
        }
        t.due("1", 82, y -> y.bringShort(0, 0, 1));
        t.end();
    }

    // promise 10: "or has not so many parts of the kind"
    private static void bringShortSoManyParts() {
        int[] whole = {2, 4, 3, 1};
        int[] price = {40, 15, 20, 5};
        for (int kind = 0; kind < 4; kind++) {
            int k = kind;
            Twins t = new Twins("10: kind " + k).after(y -> y.buySets(24)).after(y -> y.hire(5, 24));
            t.refuses("one more", Twins.STATE, y -> y.bringShort(23, k, whole[k] + 1));
            t.refuses("far too many", Twins.STATE, y -> y.bringShort(23, k, Twins.HIGH));
            t.due("all", 42 + whole[k] * price[k], y -> y.bringShort(23, k, whole[k]));
            t.due("one", 42 + price[k], y -> y.bringShort(0, k, 1)).due("in the yard", 2, y -> y.count(1));
            t.due("none is whole", 0, y -> y.count(2)).due("charged", whole[k] + 1, y -> y.parts(k, 2));
            t.end();
        }
    }

    // promise 10: "if it is in the yard"
    private static void bringShortWhere() {
        Twins t = new Twins("10: where").after(y -> y.buySets(2)).after(y -> y.hire(0, 1));
        t.refuses("in the yard", Twins.STATE, y -> y.bringShort(1, 3, 1));
        t.refuses("in the yard, and too many", Twins.STATE, y -> y.bringShort(1, 3, 2));
        t.due("from the site", 47, y -> y.bringShort(0, 3, 1));
        t.refuses("back", Twins.STATE, y -> y.bringShort(0, 0, 1)).due("where", -1, y -> y.bundle(0, 0));
        t.end();
    }

    // promise 10: "what the site that it leaves is billed for, with the missing parts"
    private static void bringShortBills() {
        for (int days = 13; days <= 15; days++) {
            int hire = Math.max(14, days) * 3;
            Twins t = new Twins("10: after " + days).after(y -> y.buySets(1)).after(y -> y.hire(1, 1)).passTo(days);
            t.after(y -> y.moveOn(0, 2)).passTo(2 * days).due("bill", hire + 60, y -> y.bringShort(0, 2, 3));
            t.due("by hires", hire, y -> y.site(2, 2)).due("missing", 60, y -> y.site(2, 3));
            t.due("bill", hire + 60, y -> y.site(2, 1)).due("the site before it", hire, y -> y.site(1, 1));
            t.due("none missing there", 0, y -> y.site(1, 3));
            t.end();
        }
    }

    // promise 11: "money: 1 to 9999"
    private static void payMoney() {
        Twins t = new Twins("11: money").after(y -> y.buySets(1)).after(y -> y.set(1, 99)).after(y -> y.hire(1, 1));
        t.passTo(198).after(y -> y.bring(0)).due("bill", 19602, y -> y.site(1, 1));
        for (int money : new int[] {Twins.LOW, -1, 0, 10000, 19602, Twins.HIGH}) {
            t.refuses("money is " + money, Twins.ARGUMENT, y -> y.pay(1, money));
            t.refuses("site first, " + money, Twins.INDEX, y -> y.pay(6, money));
            t.refuses("site first, " + money, Twins.INDEX, y -> y.pay(-1, money));
            t.refuses("argument first, " + money, Twins.ARGUMENT, y -> y.pay(0, money));
        }
        t.due("1", 19601, y -> y.pay(1, 1)).due("9999", 9602, y -> y.pay(1, 9999));
        t.refuses("too much", Twins.STATE, y -> y.pay(1, 9999)).refuses("10000", Twins.ARGUMENT, y -> y.pay(1, 10000));
        t.due("paid", 10000, y -> y.site(1, 5)).due("all paid", 10000, y -> y.count(5));
        t.end();
    }

    // promise 11: "if its bill is less than that"
    private static void payNoMoreThanTheBill() {
        Twins t = new Twins("11: the bill").after(y -> y.buySets(1)).after(y -> y.hire(1, 1));
        t.refuses("nothing is billed yet", Twins.STATE, y -> y.pay(1, 1)).after(y -> y.bring(0));
        t.refuses("43 of 42", Twins.STATE, y -> y.pay(1, 43)).refuses("another site", Twins.STATE, y -> y.pay(2, 1));
        t.due("41", 1, y -> y.pay(1, 41)).refuses("2 of 1", Twins.STATE, y -> y.pay(1, 2));
        t.due("1 of 1", 0, y -> y.pay(1, 1)).refuses("1 of 0", Twins.STATE, y -> y.pay(1, 1));
        t.due("was billed", 42, y -> y.site(1, 2)).due("paid", 42, y -> y.site(1, 5)).due("bill", 0, y -> y.site(1, 1));
        t.after(y -> y.undo()).due("1 again", 0, y -> y.pay(1, 1));
        t.end();
    }

    // promise 11: all that a site is billed for, by hires, missing parts and damage
    private static void payFullBill() {
        Twins t = new Twins("11: all of it").after(y -> y.buySets(1)).after(y -> y.hire(4, 1));
        t.after(y -> y.bringShort(0, 0, 2)).after(y -> y.damage(0, 1, 4));
        t.refuses("183 of 182", Twins.STATE, y -> y.pay(4, 183)).due("182 of 182", 0, y -> y.pay(4, 182));
        t.due("paid", 182, y -> y.count(5)).due("billed", 182, y -> y.count(4));
        t.end();
    }

    // promise 12: "days: 1 to 99"
    private static void passDays() {
        Twins t = new Twins("12: days");
        for (int days : new int[] {Twins.LOW, -1, 0, 100, 9999, Twins.HIGH}) {
            t.refuses("days is " + days, Twins.ARGUMENT, y -> y.pass(days));
        }
        t.due("1", 1, y -> y.pass(1)).due("99", 100, y -> y.pass(99)).passTo(9999);
        for (int days : new int[] {Twins.LOW, 0, 100, Twins.HIGH}) {
            t.refuses("argument first, " + days, Twins.ARGUMENT, y -> y.pass(days));
        }
        t.refuses("1", Twins.STATE, y -> y.pass(1)).refuses("99", Twins.STATE, y -> y.pass(99));
        t.end();
    }

    // promise 12: "if it would be above 9999"
    private static void passUpTo9999() {
        Twins t = new Twins("12: 9999").passTo(9900).due("9999", 9999, y -> y.pass(99)).due("left", 5, y -> y.undo());
        t.after(y -> y.pass(1)).refuses("10000", Twins.STATE, y -> y.pass(99)).due("98", 9999, y -> y.pass(98));
        t.refuses("no more", Twins.STATE, y -> y.pass(1)).due("day", 9999, y -> y.count(3));
        t.end();
    }

    // promise 12: "Undoable, as one call."
    private static void passIsOneCall() {
        Twins t = new Twins("12: one call").after(y -> y.pass(99)).due("one", 1, y -> y.count(9));
        t.due("undone", 0, y -> y.undo()).due("day", 0, y -> y.count(3));
        t.end();
    }

    // promise 13: "setting: 0 or 1"
    private static void setWhich() {
        Twins t = new Twins("13: which");
        for (int setting : new int[] {Twins.LOW, -1, 2, 3, 256, Twins.HIGH}) {
            for (int value : new int[] {-1, 1, 100}) {
                t.refuses("set " + setting + " to " + value, Twins.INDEX, y -> y.set(setting, value));
            }
            t.refuses("setting " + setting, Twins.INDEX, y -> y.setting(setting));
        }
        t.due("0", 14, y -> y.set(0, 1)).due("1", 3, y -> y.set(1, 2));
        t.due("0", 1, y -> y.setting(0)).due("1", 2, y -> y.setting(1));
        t.end();
    }

    // promise 13: "if value is out of range", "Returns the previous value."
    private static void setValues() {
        Twins t = new Twins("13: values");
        int before = 14;
        for (int value : new int[] {0, 1, 89, 90, 0, 90}) {
            t.due("the previous one", before, y -> y.set(0, value)).refuses("91", Twins.ARGUMENT, y -> y.set(0, 91));
            t.refuses("-1", Twins.ARGUMENT, y -> y.set(0, -1)).due("it", value, y -> y.setting(0));
            before = value;
        }
        before = 3;
        for (int value : new int[] {1, 2, 98, 99, 1, 99}) {
            t.due("the previous one", before, y -> y.set(1, value)).refuses("100", Twins.ARGUMENT, y -> y.set(1, 100));
            t.refuses("0", Twins.ARGUMENT, y -> y.set(1, 0)).due("it", value, y -> y.setting(1));
            before = value;
        }
        t.due("the other one", 90, y -> y.setting(0)).due("the same again", 99, y -> y.set(1, 99));
        t.end();
    }
}
