/** The boundaries that the chapter "Terms" names, sentence by sentence. */
public final class TermsBoundsTest {
    private static final int[] WHOLE = {2, 4, 3, 1};
    private static final int[] PRICE = {40, 15, 20, 5};

    public static void main(String[] args) {
        noSets();
        kinds();
        wholeSet();
        mostSets();
        numbersInOrder();
        atMostWhole();
        spareParts();
        chargedParts();
        sites();
        days();
        hiredSince();
        lastThreeUsers();
        sameSiteThrice();
        shortestTerm();
        noTerm();
        longestTerm();
        settingsWhenItLeaves();
        movesOnSameDay();
        missingParts();
        damageInTheYardAlone();
        damageSplit();
        damageOfOneUser();
        damageOfNobody();
        settingZero();
        settingOne();
        sixSavedStates();
        eachMarkedMethodIsUndone();
        savedThoughNothingChanges();
        savedButTheBuffer();
        notUndoable();
        countedSoFarIsRestored();
        usedFor512Calls();
        Check.finish("TermsBoundsTest");
    }

    // "at most 24 sets": none at all
    private static void noSets() {
        Twins t = new Twins("no sets");
        for (int set : new int[] {Twins.LOW, -1, 0, 1, 23, 24, Twins.HIGH}) {
            t.refuses("repair", Twins.INDEX, y -> y.repair(set));
            t.refuses("damage", Twins.INDEX, y -> y.damage(set, 0, 1));
            t.refuses("swap", Twins.INDEX, y -> y.swap(set, set));
            t.refuses("moveOn", Twins.INDEX, y -> y.moveOn(set, 0));
            t.refuses("bring", Twins.INDEX, y -> y.bring(set));
            t.refuses("bringShort", Twins.INDEX, y -> y.bringShort(set, 0, 1));
            t.refuses("bundle", Twins.INDEX, y -> y.bundle(set, 0));
            t.refuses("billIn", Twins.INDEX, y -> y.billIn(set, 0));
            t.refuses("splitOn", Twins.INDEX, y -> y.splitOn(set, 0, 0));
        }
        t.refuses("hire", Twins.STATE, y -> y.hire(0, 1));
        t.due("sets", 0, y -> y.count(0)).due("in the yard", 0, y -> y.count(1));
        t.due("whole ones", 0, y -> y.count(2)).due("if repaired", 0, y -> y.ifRepaired());
        t.due("hired share", 0L, y -> Double.doubleToLongBits(y.hiredShare()));
        t.due("oldest", ScaffoldYard.NONE, y -> y.oldest(0)).due("on a site", 0, y -> y.site(0, 0));
        t.due("in sets", 0, y -> y.parts(0, 0)).due("lacking", 0, y -> y.parts(0, 4));
        t.write("b0").due("an order without sets", 0, y -> y.run());
        t.write("d1").due("days without sets", 1, y -> y.run());
        t.due("spare parts without sets", 200, y -> y.buySpare(2, 200));
        t.due("the first set", 1, y -> y.buySets(1)).due("is there", -1, y -> y.bundle(0, 0));
        t.end();
    }

    // "There are 4 kinds of parts"
    private static void kinds() {
        Twins t = new Twins("kinds").after(y -> y.buySets(2)).after(y -> y.hire(0, 1));
        for (int kind : new int[] {Twins.LOW, -1, 4, 5, 1 << 30, Twins.HIGH}) {
            t.refuses("buySpare", Twins.INDEX, y -> y.buySpare(kind, 1));
            t.refuses("damage", Twins.INDEX, y -> y.damage(1, kind, 1));
            t.refuses("bringShort", Twins.INDEX, y -> y.bringShort(0, kind, 1));
            t.refuses("parts", Twins.INDEX, y -> y.parts(kind, 0));
        }
        for (int kind = 0; kind <= 3; kind += 3) {
            int k = kind;
            t.due("spare", 1, y -> y.buySpare(k, 1)).due("damage", PRICE[k], y -> y.damage(1, k, 1));
        }
        t.end();
    }

    // "A whole set has 2, 4, 3 and 1 of them; a part of a kind costs 40, 15, 20 and 5."
    private static void wholeSet() {
        for (int kind = 0; kind < 4; kind++) {
            int k = kind;
            Twins t = new Twins("a whole set, kind " + k).after(y -> y.buySets(1));
            t.due("has", WHOLE[k], y -> y.bundle(0, 10 + k)).due("ever bought", WHOLE[k], y -> y.parts(k, 3));
            t.due("costs", 205, y -> y.count(8)).due("parts in all", 10, y -> y.bundle(0, 3));
            t.refuses("one more than it has", Twins.STATE, y -> y.damage(0, k, WHOLE[k] + 1));
            t.due("all that it has", WHOLE[k] * PRICE[k], y -> y.damage(0, k, WHOLE[k]));
            t.due("has none", 0, y -> y.bundle(0, 10 + k)).due("not whole", 0, y -> y.bundle(0, 2));
            t.refuses("none is left", Twins.STATE, y -> y.damage(0, k, 1));
            t.after(y -> y.buySpare(k, WHOLE[k] - 1 > 0 ? WHOLE[k] - 1 : 1));
            t.due("a spare one costs", 205 + PRICE[k] * Math.max(1, WHOLE[k] - 1), y -> y.count(8));
            t.due("repaired", Math.max(1, WHOLE[k] - 1), y -> y.repair(0));
            t.due("one too few", WHOLE[k] == 1 ? 1 : 0, y -> y.bundle(0, 2));
            t.after(y -> y.buySpare(k, 1)).due("the last one", WHOLE[k] == 1 ? 0 : 1, y -> y.repair(0));
            t.due("whole", 1, y -> y.bundle(0, 2));
            t.end();
        }
    }

    // "There are at most 24 sets"
    private static void mostSets() {
        Twins t = new Twins("24 sets").due("23", 23, y -> y.buySets(23));
        t.refuses("the set 23 is not there yet", Twins.INDEX, y -> y.bundle(23, 0));
        t.refuses("25", Twins.STATE, y -> y.buySets(2));
        t.due("24", 24, y -> y.buySets(1)).refuses("one more", Twins.STATE, y -> y.buySets(1));
        t.refuses("24 more", Twins.STATE, y -> y.buySets(24));
        t.due("the last one", 1, y -> y.bundle(23, 2)).refuses("no 24", Twins.INDEX, y -> y.bundle(24, 2));
        t.refuses("a number that is far off", Twins.INDEX, y -> y.bundle(1 << 30, 2));
        t.due("all are hired", 0, y -> y.hire(5, 24)).due("on the site", 24, y -> y.site(5, 0));
        t.due("share", Double.doubleToLongBits(1.0), y -> Double.doubleToLongBits(y.hiredShare()));
        t.due("all bills", 24 * 42, y -> y.site(5, 6)).due("none is whole in the yard", 0, y -> y.count(2));
        t.due("the last one comes back", 42, y -> y.bring(23)).due("one", 1, y -> y.count(1));
        t.due("in sets", 24 * 4, y -> y.parts(1, 0)).due("paid for", 24 * 205, y -> y.count(8));
        t.end();
        new Twins("24 at once").due("24", 24, y -> y.buySets(24)).refuses("25", Twins.STATE, y -> y.buySets(1)).end();
    }

    // "numbered from 0 in the order in which they came"
    private static void numbersInOrder() {
        Twins t = new Twins("numbers").after(y -> y.buySets(2)).after(y -> y.damage(1, 0, 1));
        t.after(y -> y.buySets(2));
        for (int set = 0; set < 4; set++) {
            int s = set;
            t.due("whole " + s, s == 1 ? 0 : 1, y -> y.bundle(s, 2));
        }
        t.end();
    }

    // "at most as many as a whole set has"
    private static void atMostWhole() {
        Twins t = new Twins("at most whole").after(y -> y.buySets(1));
        for (int kind = 0; kind < 4; kind++) {
            int k = kind;
            t.after(y -> y.buySpare(k, 9));
        }
        t.due("nothing to put in", 0, y -> y.repair(0)).after(y -> y.damage(0, 1, 4));
        t.due("four", 4, y -> y.repair(0)).due("no more", 0, y -> y.repair(0));
        for (int kind = 0; kind < 4; kind++) {
            int k = kind;
            t.due("has", WHOLE[k], y -> y.bundle(0, 10 + k));
            t.due("spare", k == 1 ? 5 : 9, y -> y.parts(k, 1));
        }
        t.end();
    }

    // "The yard has spare parts of each kind, 0 to 999 of each, at first 0."
    private static void spareParts() {
        for (int kind = 0; kind < 4; kind++) {
            int k = kind;
            Twins t = new Twins("spare parts, kind " + k).due("at first", 0, y -> y.parts(k, 1));
            for (int i = 1; i <= 4; i++) {
                t.due("200 more", 200 * i, y -> y.buySpare(k, 200));
            }
            t.refuses("1000", Twins.STATE, y -> y.buySpare(k, 200));
            t.due("998", 998, y -> y.buySpare(k, 198)).refuses("1000", Twins.STATE, y -> y.buySpare(k, 2));
            t.due("999", 999, y -> y.buySpare(k, 1)).refuses("1000", Twins.STATE, y -> y.buySpare(k, 1));
            t.due("each kind has its own", 200, y -> y.buySpare((k + 1) % 4, 200));
            t.after(y -> y.buySets(1)).after(y -> y.damage(0, k, 1)).due("one is put in", 1, y -> y.repair(0));
            t.due("998", 998, y -> y.parts(k, 1)).refuses("1000", Twins.STATE, y -> y.buySpare(k, 2));
            t.due("999 again", 999, y -> y.buySpare(k, 1)).due("bought", 1000 + WHOLE[k], y -> y.parts(k, 3));
            t.end();
        }
    }

    // "Parts that are charged are gone" and "together as many as were ever bought"
    private static void chargedParts() {
        Twins t = new Twins("charged parts").after(y -> y.buySets(2)).after(y -> y.buySpare(0, 1));
        accounted(t, 4, 1, 0);
        t.after(y -> y.damage(0, 0, 2));
        accounted(t, 2, 1, 2);
        t.after(y -> y.repair(0));
        accounted(t, 3, 0, 2);
        t.after(y -> y.hire(2, 1)).after(y -> y.bringShort(1, 0, 2));
        accounted(t, 1, 0, 4);
        t.after(y -> y.swap(0, 1));
        accounted(t, 1, 0, 4);
        t.after(y -> y.damage(1, 0, 1));
        accounted(t, 0, 0, 5);
        t.after(y -> y.buySpare(0, 200)).after(y -> y.repair(1)).after(y -> y.repair(0));
        accounted(t, 4, 196, 5);
        t.end();
    }

    private static void accounted(Twins t, int inSets, int spare, int charged) {
        t.due("in sets", inSets, y -> y.parts(0, 0)).due("spare", spare, y -> y.parts(0, 1));
        t.due("charged", charged, y -> y.parts(0, 2));
        t.due("ever bought", inSets + spare + charged, y -> y.parts(0, 3));
        t.due("lacking", 4 - inSets, y -> y.parts(0, 4));
    }

    // "There are 6 sites, numbered from 0."
    private static void sites() {
        Twins t = new Twins("sites").after(y -> y.buySets(2)).after(y -> y.hire(5, 1)).after(y -> y.hire(0, 1));
        for (int site : new int[] {Twins.LOW, -1, 6, 7, 1 << 30, Twins.HIGH}) {
            t.refuses("hire", Twins.INDEX, y -> y.hire(site, 1));
            t.refuses("moveOn", Twins.INDEX, y -> y.moveOn(0, site));
            t.refuses("pay", Twins.INDEX, y -> y.pay(site, 1));
            t.refuses("site", Twins.INDEX, y -> y.site(site, 0));
            t.refuses("splitOn", Twins.INDEX, y -> y.splitOn(0, 0, site));
            t.refuses("oldest", Twins.INDEX, y -> y.oldest(site));
        }
        t.due("the last one", 1, y -> y.site(5, 0)).due("the first one", 1, y -> y.site(0, 0));
        t.due("to the first one", 42, y -> y.moveOn(0, 0)).due("to the last one", 42, y -> y.moveOn(1, 5));
        t.due("the last one pays", 42, y -> y.pay(5, 42) + 42).due("the first one pays", 2, y -> y.pay(0, 40));
        t.end();
    }

    // "There is a number of the day, at first 0."
    private static void days() {
        Twins t = new Twins("days").due("at first", 0, y -> y.count(3)).after(y -> y.buySets(2)).passTo(9998);
        t.refuses("10000", Twins.STATE, y -> y.pass(2)).due("left", 1, y -> y.hire(1, 1));
        t.due("9999", 9999, y -> y.pass(1)).refuses("10000", Twins.STATE, y -> y.pass(1));
        t.refuses("far beyond", Twins.STATE, y -> y.pass(99)).due("the day", 9999, y -> y.count(3));
        t.due("hired on the last day", 0, y -> y.hire(2, 1)).due("came", 9999, y -> y.bundle(1, 1));
        t.due("moves on", 42, y -> y.moveOn(0, 3)).due("comes back", 42, y -> y.bring(0));
        t.due("came back", 9999, y -> y.bundle(0, 1)).due("in 200 days", 600, y -> y.billIn(1, 200));
        t.write("d1").due("no day passes", 0, y -> y.run()).due("the day", 9999, y -> y.count(3));
        t.end();
    }

    // "hired by it since the day on which it came there", "days from its coming to this day"
    private static void hiredSince() {
        Twins t = new Twins("since").after(y -> y.buySets(1)).after(y -> y.set(0, 0)).passTo(10);
        t.after(y -> y.hire(3, 1)).due("this day", 0, y -> y.bundle(0, 7)).passTo(11);
        t.due("the next day", 3, y -> y.bundle(0, 7)).due("since", 10, y -> y.bundle(0, 1));
        t.passTo(200).due("days", 190 * 3, y -> y.bring(0)).due("in the yard since", 200, y -> y.bundle(0, 1));
        t.passTo(9999).due("in the yard since", 200, y -> y.bundle(0, 1)).after(y -> y.undo());
        t.end();
    }

    // "The users of a set are the last three sites on which it was, the latest one first"
    private static void lastThreeUsers() {
        Twins t = new Twins("users").after(y -> y.buySets(24));
        for (int set = 0; set < 24; set += 23) {
            usersAre(t, set, -1, -1, -1);
        }
        t.after(y -> y.hire(5, 24));
        usersAre(t, 23, 5, -1, -1);
        t.after(y -> y.moveOn(23, 0));
        usersAre(t, 23, 0, 5, -1);
        t.after(y -> y.bring(23));
        usersAre(t, 23, 0, 5, -1);
        t.after(y -> y.hire(3, 1));
        usersAre(t, 23, 3, 0, 5);
        t.after(y -> y.moveOn(23, 4));
        usersAre(t, 23, 4, 3, 0);
        t.due("on sites", 4, y -> y.bundle(23, 8));
        usersAre(t, 22, 5, -1, -1);
        t.after(y -> y.moveOn(0, 2));
        usersAre(t, 0, 2, 5, -1);
        usersAre(t, 1, 5, -1, -1);
        t.end();
    }

    private static void usersAre(Twins t, int set, int latest, int second, int third) {
        t.due("latest of " + set, latest, y -> y.bundle(set, 4));
        t.due("second of " + set, second, y -> y.bundle(set, 5));
        t.due("third of " + set, third, y -> y.bundle(set, 6));
    }

    // "a site again, if it was there again; the site on which it is now is the latest"
    private static void sameSiteThrice() {
        Twins t = new Twins("a site again").after(y -> y.buySets(1));
        for (int stay = 1; stay <= 4; stay++) {
            int s = stay;
            t.after(y -> y.hire(4, 1)).due("now", 4, y -> y.bundle(0, 4)).after(y -> y.bring(0));
            t.due("second", s < 2 ? -1 : 4, y -> y.bundle(0, 5)).due("third", s < 3 ? -1 : 4, y -> y.bundle(0, 6));
            t.due("on sites", s, y -> y.bundle(0, 8)).due("bears all", 100, y -> y.splitOn(0, 100, 4));
        }
        t.end();
    }

    // "but at least for setting 0 of them, times setting 1"
    private static void shortestTerm() {
        int[] days = {0, 1, 13, 14, 15, 99};
        int[] bills = {42, 42, 42, 42, 45, 297};
        for (int i = 0; i < days.length; i++) {
            int bill = bills[i];
            Twins t = new Twins("14 days, after " + days[i]).after(y -> y.buySets(1)).after(y -> y.hire(1, 1));
            t.passTo(days[i]).due("would be", bill, y -> y.bundle(0, 7)).due("is", bill, y -> y.bring(0));
            t.due("billed", bill, y -> y.site(1, 1)).due("by hires", bill, y -> y.site(1, 2));
            t.end();
        }
    }

    // setting 0 is 0
    private static void noTerm() {
        Twins t = new Twins("no term").after(y -> y.buySets(1)).after(y -> y.set(0, 0)).after(y -> y.hire(1, 1));
        t.due("nothing on the same day", 0, y -> y.moveOn(0, 2)).due("beyond it at once", 0, y -> y.oldest(2));
        t.due("none within it", 0, y -> y.site(2, 7)).passTo(1).due("one day", 3, y -> y.bring(0));
        t.due("nothing to pay", 0, y -> y.site(1, 1)).refuses("no bill", Twins.STATE, y -> y.pay(1, 1));
        t.end();
    }

    // setting 0 is 90 and setting 1 is 99, at most
    private static void longestTerm() {
        Twins t = new Twins("longest").after(y -> y.buySets(2)).after(y -> y.set(0, 90)).after(y -> y.set(1, 99));
        t.after(y -> y.hire(1, 2)).due("at once", 8910, y -> y.bundle(0, 7)).passTo(90);
        t.due("just the term", 8910, y -> y.bring(0)).passTo(91).due("one day more", 9009, y -> y.bring(1));
        t.due("billed", 8910 + 9009, y -> y.count(4));
        t.end();
        Twins all = new Twins("9999 days").after(y -> y.buySets(1)).after(y -> y.set(1, 99)).after(y -> y.hire(0, 1));
        all.passTo(9999).due("all days", 9999 * 99, y -> y.bundle(0, 7)).due("billed", 9999 * 99, y -> y.bring(0));
        all.due("bill", 9999 * 99, y -> y.site(0, 1)).due("left", 9999 * 98, y -> y.pay(0, 9999));
        all.end();
    }

    // "(Setting 0 and 1 as they are when it leaves.)"
    private static void settingsWhenItLeaves() {
        Twins t = new Twins("settings when it leaves").after(y -> y.buySets(1)).after(y -> y.hire(1, 1)).passTo(20);
        t.after(y -> y.set(0, 21)).due("longer than the stay", 63, y -> y.bundle(0, 7));
        t.after(y -> y.set(0, 20)).due("just the stay", 60, y -> y.bundle(0, 7));
        t.after(y -> y.set(0, 19)).due("shorter", 60, y -> y.bundle(0, 7));
        t.after(y -> y.set(1, 10)).due("the rate", 200, y -> y.moveOn(0, 2)).after(y -> y.set(1, 1));
        t.due("what was billed stays", 200, y -> y.site(1, 2)).due("the term", 19, y -> y.bring(0));
        t.end();
    }

    // "A set moves on ... on the same day", "the shortest term at the other one ... begins anew"
    private static void movesOnSameDay() {
        Twins t = new Twins("moves on").after(y -> y.buySets(1)).after(y -> y.hire(1, 1)).passTo(100);
        t.due("billed", 300, y -> y.moveOn(0, 2)).due("since", 100, y -> y.bundle(0, 1)).passTo(113);
        t.due("within the term", 1, y -> y.site(2, 7)).due("not due", -1, y -> y.oldest(2)).passTo(114);
        t.due("at its end", 0, y -> y.site(2, 7)).due("due", 0, y -> y.oldest(2)).passTo(115);
        t.due("15 days", 45, y -> y.moveOn(0, 1)).due("a site again", 42, y -> y.bundle(0, 7));
        t.due("was billed once", 300, y -> y.site(1, 1)).due("hires", 3, y -> y.count(6));
        t.end();
    }

    // "some parts can be missing: they are charged, and the site ... is billed for what they cost"
    private static void missingParts() {
        for (int kind = 0; kind < 4; kind++) {
            int k = kind;
            Twins t = new Twins("missing, kind " + k).after(y -> y.buySets(2)).after(y -> y.hire(3, 2));
            t.refuses("none", Twins.ARGUMENT, y -> y.bringShort(0, k, 0));
            t.refuses("more than it has", Twins.STATE, y -> y.bringShort(0, k, WHOLE[k] + 1));
            t.due("one", 42 + PRICE[k], y -> y.bringShort(0, k, 1));
            t.due("all", 42 + WHOLE[k] * PRICE[k], y -> y.bringShort(1, k, WHOLE[k]));
            t.due("charged", 1 + WHOLE[k], y -> y.parts(k, 2)).due("by hires", 84, y -> y.site(3, 2));
            t.due("by missing parts", (1 + WHOLE[k]) * PRICE[k], y -> y.site(3, 3));
            t.due("no damage", 0, y -> y.site(3, 4)).due("the yard bears nothing", 0, y -> y.count(7));
            t.due("one is gone", WHOLE[k] - 1, y -> y.bundle(0, 10 + k)).due("all", 0, y -> y.bundle(1, 10 + k));
            t.end();
        }
    }

    // "Damage is found in the yard alone"
    private static void damageInTheYardAlone() {
        Twins t = new Twins("in the yard alone").after(y -> y.buySets(1)).due("yard", 5, y -> y.damage(0, 3, 1));
        t.after(y -> y.buySpare(3, 1)).after(y -> y.repair(0)).after(y -> y.hire(0, 1));
        t.refuses("site", Twins.STATE, y -> y.damage(0, 3, 1)).after(y -> y.moveOn(0, 1));
        t.refuses("another site", Twins.STATE, y -> y.damage(0, 3, 1)).after(y -> y.bring(0));
        t.due("yard again", 5, y -> y.damage(0, 3, 1)).due("latest", 3, y -> y.site(1, 4));
        t.due("other", 2, y -> y.site(0, 4));
        t.end();
    }

    // "billed for the cost divided by their number, and the latest one for the rest, too"
    private static void damageSplit() {
        Twins t = new Twins("split on three").after(y -> y.buySets(1)).after(y -> y.hire(0, 1));
        t.after(y -> y.moveOn(0, 1)).after(y -> y.moveOn(0, 2)).after(y -> y.bring(0));
        t.due("15, no rest", 15, y -> y.damage(0, 1, 1));
        splitIs(t, 5, 5, 5);
        t.due("40, a rest of 1", 40, y -> y.damage(0, 0, 1));
        splitIs(t, 18, 18, 19);
        t.due("20, a rest of 2", 20, y -> y.damage(0, 2, 1));
        splitIs(t, 24, 24, 27);
        t.due("the yard bears nothing", 0, y -> y.count(7)).due("billed", 126 + 75, y -> y.count(4));
        t.end();
        Twins two = new Twins("split on two, a site twice").after(y -> y.buySets(1)).after(y -> y.hire(0, 1));
        two.after(y -> y.moveOn(0, 1)).after(y -> y.moveOn(0, 0)).after(y -> y.bring(0));
        two.due("20", 20, y -> y.damage(0, 2, 1));
        splitIs(two, 14, 6, 0);
        two.end();
    }

    private static void splitIs(Twins t, int first, int second, int third) {
        t.due("site 0", first, y -> y.site(0, 4)).due("site 1", second, y -> y.site(1, 4));
        t.due("site 2", third, y -> y.site(2, 4));
    }

    // one user alone, and one that is all three
    private static void damageOfOneUser() {
        Twins t = new Twins("one user").after(y -> y.buySets(1)).after(y -> y.hire(5, 1)).after(y -> y.bring(0));
        t.due("cost", 5, y -> y.damage(0, 3, 1)).due("bears all", 5, y -> y.site(5, 4));
        t.after(y -> y.buySpare(3, 1)).after(y -> y.repair(0)).after(y -> y.hire(5, 1)).after(y -> y.bring(0));
        t.due("twice", 5, y -> y.damage(0, 3, 1)).due("bears all", 10, y -> y.site(5, 4));
        t.after(y -> y.buySpare(3, 1)).after(y -> y.repair(0)).after(y -> y.hire(5, 1)).after(y -> y.bring(0));
        t.due("thrice", 5, y -> y.damage(0, 3, 1)).due("bears all", 15, y -> y.site(5, 4));
        t.end();
    }

    // "A set without any users has nobody to bill; the yard bears the cost."
    private static void damageOfNobody() {
        Twins t = new Twins("nobody").after(y -> y.buySets(2)).due("cost", 80, y -> y.damage(0, 0, 2));
        t.due("the yard", 80, y -> y.count(7)).due("no site", 0, y -> y.count(4));
        for (int site = 0; site < 6; site++) {
            int s = site;
            t.due("site", 0, y -> y.site(s, 4)).due("would be", 0, y -> y.splitOn(0, 9999, s));
        }
        t.after(y -> y.hire(0, 1)).after(y -> y.bring(1)).after(y -> y.damage(1, 0, 1));
        t.due("the yard bears no more", 80, y -> y.count(7)).due("the user", 40, y -> y.site(0, 4));
        t.end();
    }

    // "0: the shortest term in days, 0 to 90, at first 14"
    private static void settingZero() {
        Twins t = new Twins("setting 0").due("at first", 14, y -> y.setting(0));
        t.refuses("-1", Twins.ARGUMENT, y -> y.set(0, -1)).refuses("91", Twins.ARGUMENT, y -> y.set(0, 91));
        t.due("0", 14, y -> y.set(0, 0)).due("is 0", 0, y -> y.setting(0));
        t.due("90", 0, y -> y.set(0, 90)).due("is 90", 90, y -> y.setting(0));
        t.refuses("99", Twins.ARGUMENT, y -> y.set(0, 99)).refuses("low", Twins.ARGUMENT, y -> y.set(0, Twins.LOW));
        t.refuses("high", Twins.ARGUMENT, y -> y.set(0, Twins.HIGH)).due("the other", 3, y -> y.setting(1));
        t.end();
    }

    // "1: the rate for a day, 1 to 99, at first 3"
    private static void settingOne() {
        Twins t = new Twins("setting 1").due("at first", 3, y -> y.setting(1));
        t.refuses("0", Twins.ARGUMENT, y -> y.set(1, 0)).refuses("100", Twins.ARGUMENT, y -> y.set(1, 100));
        t.due("1", 3, y -> y.set(1, 1)).due("is 1", 1, y -> y.setting(1));
        t.due("99", 1, y -> y.set(1, 99)).due("is 99", 99, y -> y.setting(1));
        t.refuses("-1", Twins.ARGUMENT, y -> y.set(1, -1)).refuses("low", Twins.ARGUMENT, y -> y.set(1, Twins.LOW));
        t.refuses("high", Twins.ARGUMENT, y -> y.set(1, Twins.HIGH)).due("the other", 14, y -> y.setting(0));
        t.end();
    }

    // "At most 6 states are saved; the oldest one is dropped first."
    private static void sixSavedStates() {
        for (int changes = 0; changes <= 13; changes++) {
            Twins t = new Twins(changes + " changes");
            for (int i = 1; i <= changes; i++) {
                t.after(y -> y.pass(1)).due("saved", Math.min(i, 6), y -> y.count(9));
            }
            for (int left = Math.min(changes, 6) - 1; left >= 0; left--) {
                t.due("left", left, y -> y.undo()).due("saved", left, y -> y.count(9));
            }
            t.due("the oldest state that is saved", Math.max(0, changes - 6), y -> y.count(3));
            t.refuses("none is left", Twins.STATE, y -> y.undo());
            t.due("a new one", Math.max(0, changes - 6) + 9, y -> y.pass(9)).due("saved", 1, y -> y.count(9));
            t.end();
        }
    }

    private static ScaffoldYard fiveChanges() {
        ScaffoldYard y = new ScaffoldYard();
        y.buySets(3);
        y.hire(2, 2);
        y.bring(1);
        y.damage(1, 0, 1);
        y.buySpare(0, 3);
        for (char c : "m0>4;h2*1;d20;b0;b2".toCharArray()) {
            y.append(c);
        }
        return y;
    }

    // "Each method that is marked undoable ... saves the state from before it": one state, and all of it
    private static void eachMarkedMethodIsUndone() {
        Twins.Call[] calls = {y -> y.buySets(1), y -> y.buySets(21), y -> y.buySpare(2, 1), y -> y.buySpare(0, 200),
            y -> y.repair(1), y -> y.damage(1, 1, 4), y -> y.damage(2, 0, 2), y -> y.swap(1, 2), y -> y.hire(5, 1),
            y -> y.moveOn(0, 0), y -> y.bring(0), y -> y.bringShort(0, 2, 3), y -> y.pay(2, 1), y -> y.pay(2, 82),
            y -> y.pass(1), y -> y.pass(99), y -> y.set(0, 0), y -> y.set(0, 90), y -> y.set(1, 1), y -> y.set(1, 99)};
        for (int call = 0; call < calls.length; call++) {
            ScaffoldYard y = fiveChanges();
            long before = y.digest();
            calls[call].on(y);
            Check.same("undoable " + call + ": is seen", 1, before == y.digest() ? 0 : 1);
            Check.same("undoable " + call + ": saved", 6, y.count(9));
            Check.same("undoable " + call + ": undone", 5, y.undo());
            Check.same("undoable " + call + ": all as before", before, y.digest());
        }
        ScaffoldYard y = fiveChanges();
        y.clearBuffer();
        long before = y.digest();
        for (char c : "m0>4;h2*1;d20;b0;b2".toCharArray()) {
            y.append(c);
        }
        Check.same("undoable run: done", 5, y.run());
        Check.same("undoable run: saved", 6, y.count(9));
        Check.same("undoable run: undone", 5, y.undo());
        Check.same("undoable run: all as before", before, y.digest());
    }

    // "saves the state from before it (also if it changes nothing)"
    private static void savedThoughNothingChanges() {
        Twins t = new Twins("changes nothing").after(y -> y.buySets(2)).after(y -> y.set(0, 14));
        t.due("a setting as it was", 2, y -> y.count(9)).due("nothing to repair", 0, y -> y.repair(1));
        t.due("saved", 3, y -> y.count(9)).due("swapped with itself", 10, y -> y.swap(1, 1));
        t.due("saved", 4, y -> y.count(9)).due("two whole ones", 10, y -> y.swap(0, 1));
        t.due("saved", 5, y -> y.count(9)).write("b0").due("no order is carried out", 0, y -> y.run());
        t.due("saved", 6, y -> y.count(9)).after(y -> y.repair(0)).due("the most", 6, y -> y.count(9));
        for (int left = 5; left >= 0; left--) {
            t.due("left", left, y -> y.undo()).due("sets", 2, y -> y.count(0));
        }
        t.end();
    }

    // "but the buffer and the saved states"
    private static void savedButTheBuffer() {
        Twins t = new Twins("the buffer stays").write("d1").after(y -> y.pass(5)).write(";d2");
        t.due("undone", 0, y -> y.undo()).due("all of the text", 5, y -> y.firstError());
        t.due("it is carried out", 2, y -> y.run()).due("day", 3, y -> y.count(3)).due("undone", 0, y -> y.undo());
        t.due("the buffer is not restored", 0, y -> y.clearBuffer()).due("day", 0, y -> y.count(3));
        t.write("x").after(y -> y.pass(1)).after(y -> y.clearBuffer()).after(y -> y.undo());
        t.due("cleared", 0, y -> y.clearBuffer());
        t.end();
    }

    // only "each method that is marked undoable"
    private static void notUndoable() {
        Twins t = new Twins("not undoable").after(y -> y.buySets(1)).write("d1").after(y -> y.firstError());
        t.after(y -> y.clearBuffer()).after(y -> y.bundle(0, 0)).after(y -> y.site(0, 0)).after(y -> y.parts(0, 0));
        t.after(y -> y.count(0)).after(y -> y.setting(0)).after(y -> y.billIn(0, 1)).after(y -> y.splitOn(0, 1, 0));
        t.after(y -> y.oldest(0)).after(y -> y.ifRepaired()).after(y -> (long) y.hiredShare());
        t.due("one", 1, y -> y.count(9)).due("undo itself", 0, y -> y.undo());
        t.due("is not saved", 0, y -> y.count(9)).due("before the set", 0, y -> y.count(0));
        t.end();
    }

    // "all, also what is counted so far"
    private static void countedSoFarIsRestored() {
        Twins t = new Twins("counted so far").after(y -> y.buySets(2)).after(y -> y.hire(0, 1)).passTo(20);
        t.after(y -> y.bringShort(0, 0, 1)).after(y -> y.damage(0, 0, 1)).after(y -> y.damage(1, 2, 2));
        int[] counted = {2, 2, 0, 20, 60 + 40 + 40, 0, 1, 40, 410, 6};
        for (int what = 0; what < counted.length; what++) {
            int w = what;
            t.due("count " + w, counted[w], y -> y.count(w));
        }
        t.after(y -> y.undo()).due("borne", 0, y -> y.count(7)).due("charged", 0, y -> y.parts(2, 2));
        t.after(y -> y.undo()).due("billed", 100, y -> y.count(4)).due("by damage", 0, y -> y.site(0, 4));
        t.after(y -> y.undo()).due("by missing parts", 0, y -> y.site(0, 3)).due("by hires", 0, y -> y.site(0, 2));
        t.due("billed", 0, y -> y.count(4)).due("charged", 0, y -> y.parts(0, 2)).after(y -> y.undo());
        t.due("day", 0, y -> y.count(3)).after(y -> y.undo()).due("hires", 0, y -> y.count(6));
        t.due("stays", 0, y -> y.bundle(0, 8)).after(y -> y.undo()).due("paid for", 0, y -> y.count(8));
        t.end();
    }

    // "An object is used for at most 512 calls"
    private static void usedFor512Calls() {
        ScaffoldYard y = new ScaffoldYard();
        y.buySets(24);
        for (int call = 2; call <= 510; call++) {
            if (call % 2 == 0) {
                Check.same("512 calls: call " + call, 23, y.hire(call % 6, 1));
            } else {
                Check.same("512 calls: call " + call, 42, y.bring(0));
            }
        }
        Check.same("512 calls: hires", 255, y.count(6));
        Check.same("512 calls: saved", 6, y.count(9));
    }
}
