/** The boundaries that the promises 1 to 6 name: a new object and the yard. */
public final class YardBoundsTest {
    public static void main(String[] args) {
        newObject();
        buySetsMany();
        buySetsUpTo24();
        buySpareMany();
        buySpareUpTo999();
        repairWhichSet();
        repairAsFarAsTheyGo();
        repairUsesNoMoreThanLacks();
        repairInTheYard();
        damageAtLeastOne();
        damageSoManyParts();
        damageInTheYard();
        swapWhichSets();
        swapInTheYard();
        swapExchangesAll();
        Check.finish("YardBoundsTest");
    }

    // promise 1: "without sets, on the day 0, with an empty buffer"
    private static void newObject() {
        Twins t = new Twins("1").due("sets", 0, y -> y.count(0)).due("day", 0, y -> y.count(3));
        t.due("buffer", 0, y -> y.firstError()).due("saved", 0, y -> y.count(9));
        t.refuses("an empty buffer is no row", Twins.ARGUMENT, y -> y.run());
        t.refuses("nothing to undo", Twins.STATE, y -> y.undo());
        t.due("the first character", 1, y -> y.append('d')).due("it had one", 1, y -> y.clearBuffer());
        for (int kind = 0; kind < 4; kind++) {
            for (int what = 0; what <= 4; what++) {
                int k = kind;
                int w = what;
                t.due("no parts", 0, y -> y.parts(k, w));
            }
        }
        t.end();
    }

    // promise 2: "many: 1 to 24"
    private static void buySetsMany() {
        Twins t = new Twins("2: many");
        for (int many : new int[] {Twins.LOW, -1, 0, 25, 26, 256 + 1, Twins.HIGH}) {
            t.refuses("many is " + many, Twins.ARGUMENT, y -> y.buySets(many));
        }
        t.due("1", 1, y -> y.buySets(1)).after(y -> y.undo()).due("24", 24, y -> y.buySets(24));
        for (int many : new int[] {Twins.LOW, 0, 25, Twins.HIGH}) {
            t.refuses("named first, " + many, Twins.ARGUMENT, y -> y.buySets(many));
        }
        t.end();
    }

    // promise 2: "if there would be more than 24"
    private static void buySetsUpTo24() {
        for (int first = 1; first <= 24; first++) {
            int f = first;
            Twins t = new Twins("2: " + f + " sets").due("so many", f, y -> y.buySets(f));
            if (f < 24) {
                t.refuses("25", Twins.STATE, y -> y.buySets(25 - f)).refuses("more", Twins.STATE, y -> y.buySets(24));
                t.due("24", 24, y -> y.buySets(24 - f)).due("cost", 24 * 205, y -> y.count(8));
            }
            t.refuses("one more", Twins.STATE, y -> y.buySets(1)).due("in the yard", 24, y -> y.count(2));
            t.end();
        }
    }

    // promise 3: "many: 1 to 200"
    private static void buySpareMany() {
        Twins t = new Twins("3: many");
        for (int many : new int[] {Twins.LOW, -200, -1, 0, 201, 1000, 1 << 16, Twins.HIGH}) {
            t.refuses("many is " + many, Twins.ARGUMENT, y -> y.buySpare(3, many));
            t.refuses("kind first, " + many, Twins.INDEX, y -> y.buySpare(4, many));
            t.refuses("kind first, " + many, Twins.INDEX, y -> y.buySpare(-1, many));
        }
        t.due("1", 1, y -> y.buySpare(3, 1)).due("200", 201, y -> y.buySpare(3, 200));
        t.due("paid for", 201 * 5, y -> y.count(8));
        t.end();
    }

    // promise 3: "if there would be more than 999"
    private static void buySpareUpTo999() {
        Twins t = new Twins("3: 999").after(y -> y.buySpare(0, 200)).after(y -> y.buySpare(0, 200));
        t.after(y -> y.buySpare(0, 200)).due("799", 799, y -> y.buySpare(0, 199));
        t.due("just 999", 999, y -> y.buySpare(0, 200)).after(y -> y.undo()).after(y -> y.buySpare(0, 1));
        t.refuses("just 1000", Twins.STATE, y -> y.buySpare(0, 200)).due("999", 999, y -> y.buySpare(0, 199));
        t.refuses("full", Twins.STATE, y -> y.buySpare(0, 1)).refuses("full", Twins.STATE, y -> y.buySpare(0, 200));
        t.refuses("argument first", Twins.ARGUMENT, y -> y.buySpare(0, 201));
        t.refuses("argument first", Twins.ARGUMENT, y -> y.buySpare(0, 0));
        t.refuses("kind first", Twins.INDEX, y -> y.buySpare(4, 1)).due("paid for", 999 * 40, y -> y.count(8));
        t.end();
    }

    // promise 4: "if there is no such set"
    private static void repairWhichSet() {
        Twins t = new Twins("4: which set").after(y -> y.buySets(3));
        for (int set : new int[] {Twins.LOW, -1, 3, 4, 24, 1 << 30, Twins.HIGH}) {
            t.refuses("no set " + set, Twins.INDEX, y -> y.repair(set));
        }
        t.due("the first", 0, y -> y.repair(0)).due("the last", 0, y -> y.repair(2));
        t.after(y -> y.buySets(1)).due("a set more", 0, y -> y.repair(3)).after(y -> y.undo()).after(y -> y.undo());
        t.refuses("a set less", Twins.INDEX, y -> y.repair(3));
        t.end();
    }

    // promise 4: "kind by kind, as far as they go"
    private static void repairAsFarAsTheyGo() {
        for (int spare = 0; spare <= 5; spare++) {
            int s = spare;
            Twins t = new Twins("4: " + s + " spare for 4").after(y -> y.buySets(2)).after(y -> y.damage(1, 1, 4));
            if (s > 0) {
                t.after(y -> y.buySpare(1, s));
            }
            t.due("put in", Math.min(s, 4), y -> y.repair(1)).due("has", Math.min(s, 4), y -> y.bundle(1, 11));
            t.due("whole", s >= 4 ? 1 : 0, y -> y.bundle(1, 2)).due("left", Math.max(0, s - 4), y -> y.parts(1, 1));
            t.due("nothing more", 0, y -> y.repair(1)).due("whole ones", s >= 4 ? 2 : 1, y -> y.count(2));
            t.end();
        }
    }

    // promise 4: spare parts of one kind don't stand in for another kind
    private static void repairUsesNoMoreThanLacks() {
        Twins t = new Twins("4: kinds").after(y -> y.buySets(1)).after(y -> y.damage(0, 0, 2));
        t.after(y -> y.damage(0, 2, 3)).after(y -> y.damage(0, 3, 1)).after(y -> y.buySpare(0, 1));
        t.after(y -> y.buySpare(1, 200)).after(y -> y.buySpare(2, 3)).after(y -> y.buySpare(3, 1));
        t.due("one, three and one", 5, y -> y.repair(0)).due("not whole", 0, y -> y.bundle(0, 2));
        t.due("no spare left", 0, y -> y.parts(0, 1)).due("all left", 200, y -> y.parts(1, 1));
        t.due("no spare left", 0, y -> y.parts(2, 1)).due("no spare left", 0, y -> y.parts(3, 1));
        t.due("nobody is billed", 0, y -> y.count(4)).due("parts", 9, y -> y.bundle(0, 3));
        t.end();
    }

    // promise 4: "if it is not in the yard"
    private static void repairInTheYard() {
        Twins t = new Twins("4: in the yard").after(y -> y.buySets(2)).after(y -> y.hire(0, 1));
        t.refuses("on a site", Twins.STATE, y -> y.repair(0)).due("in the yard", 0, y -> y.repair(1));
        t.after(y -> y.moveOn(0, 5)).refuses("on a site", Twins.STATE, y -> y.repair(0)).after(y -> y.bring(0));
        t.due("back", 0, y -> y.repair(0)).refuses("no set", Twins.INDEX, y -> y.repair(2));
        t.end();
    }

    // promise 5: "at least 1"
    private static void damageAtLeastOne() {
        Twins t = new Twins("5: at least 1").after(y -> y.buySets(2)).after(y -> y.hire(0, 1));
        for (int many : new int[] {Twins.LOW, -1, 0}) {
            t.refuses("in the yard, " + many, Twins.ARGUMENT, y -> y.damage(1, 0, many));
            t.refuses("argument first, " + many, Twins.ARGUMENT, y -> y.damage(0, 0, many));
            t.refuses("kind first, " + many, Twins.INDEX, y -> y.damage(1, 4, many));
            t.refuses("kind first, " + many, Twins.INDEX, y -> y.damage(1, -1, many));
            t.refuses("set first, " + many, Twins.INDEX, y -> y.damage(2, 0, many));
            t.refuses("set first, " + many, Twins.INDEX, y -> y.damage(-1, 0, many));
        }
        t.due("1", 40, y -> y.damage(1, 0, 1));
        t.end();
    }

    // promise 5: "or has not so many parts of the kind"
    private static void damageSoManyParts() {
        int[] whole = {2, 4, 3, 1};
        int[] price = {40, 15, 20, 5};
        for (int kind = 0; kind < 4; kind++) {
            int k = kind;
            Twins t = new Twins("5: kind " + k).after(y -> y.buySets(24)).after(y -> y.buySpare(k, 9));
            for (int left = whole[k]; left > 0; left--) {
                int l = left;
                t.refuses("one more", Twins.STATE, y -> y.damage(23, k, l + 1));
                t.due("all of them", l * price[k], y -> y.damage(23, k, l)).after(y -> y.undo());
                t.due("one of them", price[k], y -> y.damage(23, k, 1)).due("left", l - 1, y -> y.bundle(23, 10 + k));
            }
            t.refuses("none left", Twins.STATE, y -> y.damage(23, k, 1));
            t.refuses("far too many", Twins.STATE, y -> y.damage(23, k, Twins.HIGH));
            t.due("spare ones stay", 9, y -> y.parts(k, 1)).due("another set", whole[k], y -> y.bundle(22, 10 + k));
            t.end();
        }
    }

    // promise 5: "if it is not in the yard"
    private static void damageInTheYard() {
        Twins t = new Twins("5: in the yard").after(y -> y.buySets(24)).after(y -> y.hire(3, 23));
        t.refuses("set 22 on the site", Twins.STATE, y -> y.damage(22, 1, 1));
        t.due("set 23 in the yard", 15, y -> y.damage(23, 1, 1)).after(y -> y.bring(22));
        t.due("back in the yard", 15, y -> y.damage(22, 1, 1)).due("billed", 15, y -> y.site(3, 4));
        t.refuses("no set", Twins.INDEX, y -> y.damage(24, 1, 1)).due("borne", 15, y -> y.count(7));
        t.end();
    }

    // promise 6: "if there is no such set"
    private static void swapWhichSets() {
        Twins t = new Twins("6: which sets").after(y -> y.buySets(3)).after(y -> y.hire(0, 1));
        for (int set : new int[] {Twins.LOW, -1, 3, 24, 1 << 30, Twins.HIGH}) {
            for (int other = 0; other <= 2; other++) {
                int o = other;
                t.refuses("no set " + set, Twins.INDEX, y -> y.swap(set, o));
                t.refuses("no other " + set, Twins.INDEX, y -> y.swap(o, set));
            }
            t.refuses("neither " + set, Twins.INDEX, y -> y.swap(set, set));
        }
        t.due("the last ones", 10, y -> y.swap(1, 2));
        t.end();
    }

    // promise 6: "if one of both is not in the yard"
    private static void swapInTheYard() {
        Twins t = new Twins("6: in the yard").after(y -> y.buySets(4)).after(y -> y.damage(3, 0, 1));
        t.after(y -> y.hire(2, 2)).refuses("the first is not", Twins.STATE, y -> y.swap(1, 3));
        t.refuses("the other is not", Twins.STATE, y -> y.swap(3, 1)).refuses("both", Twins.STATE, y -> y.swap(0, 1));
        t.refuses("with itself on a site", Twins.STATE, y -> y.swap(0, 0)).due("both are", 9, y -> y.swap(2, 3));
        t.due("with itself in the yard", 9, y -> y.swap(2, 2)).after(y -> y.bring(1));
        t.due("back in the yard", 9, y -> y.swap(1, 2)).due("whole again", 1, y -> y.bundle(2, 2));
        t.end();
    }

    // promise 6: "Exchanges the parts of two sets", the empty set and the whole one
    private static void swapExchangesAll() {
        Twins t = new Twins("6: all parts").after(y -> y.buySets(24)).after(y -> y.hire(4, 1)).after(y -> y.bring(0));
        t.after(y -> y.damage(23, 0, 2)).after(y -> y.damage(23, 1, 4)).after(y -> y.damage(23, 2, 3));
        t.after(y -> y.damage(23, 3, 1)).due("no parts", 0, y -> y.bundle(23, 3));
        t.due("the first one of both is empty then", 0, y -> y.swap(0, 23)).due("whole", 1, y -> y.bundle(23, 2));
        for (int what = 10; what <= 13; what++) {
            int w = what;
            t.due("nothing in 0", 0, y -> y.bundle(0, w));
        }
        t.due("users stay", 4, y -> y.bundle(0, 4)).due("users stay", -1, y -> y.bundle(23, 4));
        t.due("stays", 1, y -> y.bundle(0, 8)).due("stays", 0, y -> y.bundle(23, 8));
        t.due("and back", 10, y -> y.swap(0, 23)).due("empty", 0, y -> y.bundle(23, 3));
        t.due("the set that is named first", 10, y -> y.swap(23, 0)).due("empty", 0, y -> y.bundle(0, 3));
        t.end();
    }
}
