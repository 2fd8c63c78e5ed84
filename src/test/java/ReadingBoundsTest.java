/** The boundaries that the promises 19 to 29 name: what there is, and what would be. */
public final class ReadingBoundsTest {
    private static final int[] WHOLE = {2, 4, 3, 1};

    public static void main(String[] args) {
        bundleWhats();
        bundleWhichSet();
        bundleDayOfComing();
        bundleWholeAndParts();
        bundleBillToday();
        siteWhats();
        siteSets();
        siteWithinTerm();
        siteIfAllLeft();
        partsWhats();
        partsLacking();
        countWhats();
        countWholeInTheYard();
        countHires();
        countOfAllSites();
        countSaved();
        settingWhich();
        billInDays();
        billInAroundTheTerm();
        splitOnCost();
        splitOnUsersAsTheyAreNow();
        oldestAroundTheTerm();
        oldestOfSeveral();
        ifRepairedJustEnough();
        ifRepairedByAscendingNumbers();
        ifRepairedInTheYardAlone();
        hiredShareOfAll();
        digestOfNewYard();
        digestOfFullYard();
        digestSeesEachCharacter();
        digestSeesEachChange();
        Check.finish("ReadingBoundsTest");
    }

    // promise 19: "if what is not 0 to 8 or 10 to 13"
    private static void bundleWhats() {
        Twins t = new Twins("19: what").after(y -> y.buySets(1));
        for (int what : new int[] {Twins.LOW, -1, 9, 14, 15, 256, Twins.HIGH}) {
            t.refuses("what is " + what, Twins.ARGUMENT, y -> y.bundle(0, what));
            t.refuses("set first, " + what, Twins.INDEX, y -> y.bundle(1, what));
            t.refuses("set first, " + what, Twins.INDEX, y -> y.bundle(-1, what));
        }
        int[] due = {-1, 0, 1, 10, -1, -1, -1, 0, 0, 0, 2, 4, 3, 1};
        for (int what = 0; what <= 13; what++) {
            int w = what;
            if (what != 9) {
                t.due("what is " + w, due[w], y -> y.bundle(0, w));
            }
        }
        t.end();
    }

    // promise 19: "if there is no such set"
    private static void bundleWhichSet() {
        Twins t = new Twins("19: which");
        for (int sets = 1; sets <= 24; sets++) {
            int s = sets;
            t.refuses("not yet " + (s - 1), Twins.INDEX, y -> y.bundle(s - 1, 0)).after(y -> y.buySets(1));
            t.due("the last one", 1, y -> y.bundle(s - 1, 2)).refuses("no more", Twins.INDEX, y -> y.bundle(s, 0));
        }
        t.end();
    }

    // promise 19: "0 if it never left the yard"
    private static void bundleDayOfComing() {
        Twins t = new Twins("19: coming").passTo(30).after(y -> y.buySets(2)).due("never left", 0, y -> y.bundle(0, 1));
        t.passTo(31).due("never left", 0, y -> y.bundle(0, 1)).after(y -> y.repair(0)).after(y -> y.swap(0, 1));
        t.due("still there", 0, y -> y.bundle(0, 1)).after(y -> y.hire(5, 1));
        t.due("to the site", 31, y -> y.bundle(0, 1));
        t.passTo(32).due("to the site", 31, y -> y.bundle(0, 1)).after(y -> y.moveOn(0, 4));
        t.due("to another one", 32, y -> y.bundle(0, 1)).passTo(33).after(y -> y.bringShort(0, 0, 1));
        t.due("to the yard", 33, y -> y.bundle(0, 1)).passTo(34).after(y -> y.buySpare(0, 1)).after(y -> y.repair(0));
        t.due("to the yard", 33, y -> y.bundle(0, 1)).due("the other one", 0, y -> y.bundle(1, 1));
        t.end();
    }

    // promise 19: "1 if it is whole, otherwise 0", "its parts, how many"
    private static void bundleWholeAndParts() {
        Twins t = new Twins("19: parts").after(y -> y.buySets(24));
        int parts = 10;
        for (int kind = 0; kind < 4; kind++) {
            int k = kind;
            for (int left = WHOLE[kind] - 1; left >= 0; left--) {
                int l = left;
                parts--;
                t.after(y -> y.damage(23, k, 1)).due("kind " + k, l, y -> y.bundle(23, 10 + k));
                t.due("parts", parts, y -> y.bundle(23, 3)).due("not whole", 0, y -> y.bundle(23, 2));
            }
        }
        t.due("the one before it", 10, y -> y.bundle(22, 3)).due("whole", 1, y -> y.bundle(22, 2));
        t.end();
        for (int kind = 0; kind < 4; kind++) {
            int k = kind;
            Twins one = new Twins("19: one lacks").after(y -> y.buySets(1)).after(y -> y.damage(0, k, 1));
            one.due("not whole", 0, y -> y.bundle(0, 2)).after(y -> y.buySpare(k, 1)).after(y -> y.repair(0));
            one.due("whole", 1, y -> y.bundle(0, 2)).due("parts", 10, y -> y.bundle(0, 3));
            one.end();
        }
    }

    // promise 19: "what its site would be billed for, if it left today, 0 in the yard"
    private static void bundleBillToday() {
        Twins t = new Twins("19: today").after(y -> y.buySets(1)).due("yard", 0, y -> y.bundle(0, 7)).passTo(5);
        t.after(y -> y.hire(0, 1)).due("site", 42, y -> y.bundle(0, 7)).passTo(19).due("14", 42, y -> y.bundle(0, 7));
        t.passTo(20).due("15", 45, y -> y.bundle(0, 7)).after(y -> y.bring(0)).due("yard", 0, y -> y.bundle(0, 7));
        t.due("nothing is billed by asking", 45, y -> y.count(4));
        t.end();
    }

    // promise 20: "if what is not 0 to 7"
    private static void siteWhats() {
        Twins t = new Twins("20: what");
        for (int what : new int[] {Twins.LOW, -1, 8, 9, 256, Twins.HIGH}) {
            t.refuses("what is " + what, Twins.ARGUMENT, y -> y.site(0, what));
            t.refuses("what is " + what, Twins.ARGUMENT, y -> y.site(5, what));
            t.refuses("site first, " + what, Twins.INDEX, y -> y.site(6, what));
            t.refuses("site first, " + what, Twins.INDEX, y -> y.site(-1, what));
        }
        for (int what = 0; what <= 7; what++) {
            int w = what;
            t.due("what is " + w, 0, y -> y.site(0, w)).due("what is " + w, 0, y -> y.site(5, w));
        }
        t.end();
    }

    // promise 20: "sets on it"
    private static void siteSets() {
        Twins t = new Twins("20: sets").after(y -> y.buySets(24)).due("none", 0, y -> y.site(5, 0));
        t.after(y -> y.hire(5, 24)).due("all", 24, y -> y.site(5, 0)).after(y -> y.moveOn(0, 0));
        t.due("one left", 23, y -> y.site(5, 0)).due("one came", 1, y -> y.site(0, 0)).after(y -> y.bring(23));
        t.due("one more left", 22, y -> y.site(5, 0)).due("its bill", 84, y -> y.site(5, 1));
        t.end();
    }

    // promise 20: "that came fewer than setting 0 days ago"
    private static void siteWithinTerm() {
        Twins t = new Twins("20: within").after(y -> y.buySets(3)).after(y -> y.hire(1, 1)).passTo(1);
        t.after(y -> y.hire(1, 2)).due("all", 3, y -> y.site(1, 7)).passTo(13).due("all", 3, y -> y.site(1, 7));
        t.passTo(14).due("two", 2, y -> y.site(1, 7)).passTo(15).due("none", 0, y -> y.site(1, 7));
        t.after(y -> y.set(0, 15)).due("two", 2, y -> y.site(1, 7)).after(y -> y.set(0, 16));
        t.due("all", 3, y -> y.site(1, 7)).after(y -> y.set(0, 0)).due("none", 0, y -> y.site(1, 7));
        t.after(y -> y.bring(0)).after(y -> y.hire(1, 1)).due("just come, no term", 0, y -> y.site(1, 7));
        t.after(y -> y.set(0, 1)).due("just come", 1, y -> y.site(1, 7)).after(y -> y.set(0, 90));
        t.passTo(90).due("all", 3, y -> y.site(1, 7)).passTo(91).due("the one that came again", 1, y -> y.site(1, 7));
        t.passTo(104).due("it is still", 1, y -> y.site(1, 7)).passTo(105);
        t.due("none", 0, y -> y.site(1, 7)).due("another site", 0, y -> y.site(2, 7));
        t.end();
    }

    // promise 20: "if all of its sets left today"
    private static void siteIfAllLeft() {
        Twins t = new Twins("20: all left").after(y -> y.buySets(24)).due("none", 0, y -> y.site(3, 6));
        t.after(y -> y.hire(3, 12)).passTo(14).after(y -> y.hire(3, 12)).due("all", 24 * 42, y -> y.site(3, 6));
        t.passTo(15).due("half of them a day more", 12 * 45 + 12 * 42, y -> y.site(3, 6)).after(y -> y.bring(0));
        t.due("one less", 11 * 45 + 12 * 42, y -> y.site(3, 6)).after(y -> y.set(0, 0)).after(y -> y.set(1, 1));
        t.due("settings of today", 11 * 15 + 12, y -> y.site(3, 6)).due("billed", 45, y -> y.site(3, 2));
        t.end();
    }

    // promise 21: "if what is not 0 to 4"
    private static void partsWhats() {
        Twins t = new Twins("21: what").after(y -> y.buySets(24));
        for (int what : new int[] {Twins.LOW, -1, 5, 6, 256, Twins.HIGH}) {
            t.refuses("what is " + what, Twins.ARGUMENT, y -> y.parts(0, what));
            t.refuses("what is " + what, Twins.ARGUMENT, y -> y.parts(3, what));
            t.refuses("kind first, " + what, Twins.INDEX, y -> y.parts(4, what));
            t.refuses("kind first, " + what, Twins.INDEX, y -> y.parts(-1, what));
        }
        for (int kind = 0; kind < 4; kind++) {
            int k = kind;
            t.due("in sets", 24 * WHOLE[k], y -> y.parts(k, 0)).due("spare", 0, y -> y.parts(k, 1));
            t.due("charged", 0, y -> y.parts(k, 2)).due("bought", 24 * WHOLE[k], y -> y.parts(k, 3));
            t.due("lacking", 0, y -> y.parts(k, 4));
        }
        t.end();
    }

    // promise 21: "those that are lacking in sets, so that all would be whole"
    private static void partsLacking() {
        Twins t = new Twins("21: lacking").after(y -> y.buySets(2)).after(y -> y.damage(0, 1, 4));
        t.due("four", 4, y -> y.parts(1, 4)).after(y -> y.hire(0, 1)).due("still", 4, y -> y.parts(1, 4));
        t.after(y -> y.bringShort(1, 1, 4)).due("all", 8, y -> y.parts(1, 4)).due("in sets", 0, y -> y.parts(1, 0));
        t.after(y -> y.buySpare(1, 7)).due("spare ones are not in sets", 8, y -> y.parts(1, 4));
        t.after(y -> y.repair(0)).after(y -> y.repair(1)).due("one", 1, y -> y.parts(1, 4));
        t.due("another kind", 0, y -> y.parts(0, 4)).after(y -> y.buySets(1)).due("one", 1, y -> y.parts(1, 4));
        t.end();
    }

    // promise 22: "if what is not 0 to 9"
    private static void countWhats() {
        Twins t = new Twins("22: what");
        for (int what : new int[] {Twins.LOW, -1, 10, 11, 256, Twins.HIGH}) {
            t.refuses("what is " + what, Twins.ARGUMENT, y -> y.count(what));
        }
        for (int what = 0; what <= 9; what++) {
            int w = what;
            t.due("what is " + w, 0, y -> y.count(w));
        }
        t.end();
    }

    // promise 22: "those in the yard", "whole ones in the yard"
    private static void countWholeInTheYard() {
        Twins t = new Twins("22: yard").after(y -> y.buySets(24)).due("all", 24, y -> y.count(1));
        t.due("all whole", 24, y -> y.count(2)).after(y -> y.damage(0, 3, 1)).due("all", 24, y -> y.count(1));
        t.due("but one", 23, y -> y.count(2)).after(y -> y.hire(0, 23)).due("one", 1, y -> y.count(1));
        t.due("not whole", 0, y -> y.count(2)).due("sets", 24, y -> y.count(0)).after(y -> y.bring(23));
        t.due("two", 2, y -> y.count(1)).due("whole", 1, y -> y.count(2));
        t.end();
    }

    // promise 22: "each coming to a site counts"
    private static void countHires() {
        Twins t = new Twins("22: hires").after(y -> y.buySets(24)).after(y -> y.hire(0, 24));
        t.due("24", 24, y -> y.count(6)).after(y -> y.moveOn(0, 1)).due("one more", 25, y -> y.count(6));
        t.after(y -> y.bring(0)).due("not the yard", 25, y -> y.count(6)).after(y -> y.hire(1, 1));
        t.due("again", 26, y -> y.count(6)).after(y -> y.bringShort(0, 1, 1)).due("not short", 26, y -> y.count(6));
        t.write("m1>1;m1>0;b1;h0*1").after(y -> y.run()).due("by orders", 29, y -> y.count(6));
        t.end();
    }

    // promise 22: "what all sites were billed for so far", "what they paid so far"
    private static void countOfAllSites() {
        Twins t = new Twins("22: all sites").after(y -> y.buySets(6));
        for (int site = 0; site < 6; site++) {
            int s = site;
            t.after(y -> y.hire(s, 1));
        }
        for (int site = 0; site < 6; site++) {
            int s = site;
            t.after(y -> y.bringShort(s, 3, 1)).due("billed", 67 * s + 47, y -> y.count(4));
            t.after(y -> y.damage(s, 2, 1)).due("billed", 67 * (s + 1), y -> y.count(4));
            t.after(y -> y.pay(s, s + 1)).due("paid", (s + 1) * (s + 2) / 2, y -> y.count(5));
            t.due("its bill", 66 - s, y -> y.site(s, 1)).due("it paid", s + 1, y -> y.site(s, 5));
        }
        t.due("by paying none is billed less", 6 * 67, y -> y.count(4));
        t.end();
    }

    // promise 22: "saved states"
    private static void countSaved() {
        Twins t = new Twins("22: saved");
        for (int change = 1; change <= 8; change++) {
            t.after(y -> y.pass(1)).due("at most six", Math.min(change, 6), y -> y.count(9));
        }
        t.after(y -> y.undo()).due("five", 5, y -> y.count(9));
        t.end();
    }

    // promise 23: "0 or 1"
    private static void settingWhich() {
        Twins t = new Twins("23").due("0", 14, y -> y.setting(0)).due("1", 3, y -> y.setting(1));
        for (int setting : new int[] {Twins.LOW, -1, 2, 3, Twins.HIGH}) {
            t.refuses("setting " + setting, Twins.INDEX, y -> y.setting(setting));
        }
        t.after(y -> y.set(1, 98)).due("0", 14, y -> y.setting(0)).due("1", 98, y -> y.setting(1));
        t.end();
    }

    // promise 24: "days: 0 to 200"
    private static void billInDays() {
        Twins t = new Twins("24: days").after(y -> y.buySets(2)).after(y -> y.hire(0, 1));
        for (int days : new int[] {Twins.LOW, -1, 201, 202, Twins.HIGH}) {
            t.refuses("on a site, " + days, Twins.ARGUMENT, y -> y.billIn(0, days));
            t.refuses("in the yard, " + days, Twins.ARGUMENT, y -> y.billIn(1, days));
            t.refuses("set first, " + days, Twins.INDEX, y -> y.billIn(2, days));
            t.refuses("set first, " + days, Twins.INDEX, y -> y.billIn(-1, days));
        }
        t.due("0", 42, y -> y.billIn(0, 0)).due("200", 600, y -> y.billIn(0, 200));
        t.due("0 in the yard", 0, y -> y.billIn(1, 0)).due("200 in the yard", 0, y -> y.billIn(1, 200));
        t.refuses("no set", Twins.INDEX, y -> y.billIn(2, 0)).due("the day stays", 0, y -> y.count(3));
        t.end();
    }

    // promise 24: the shortest term
    private static void billInAroundTheTerm() {
        Twins t = new Twins("24: term").after(y -> y.buySets(1)).after(y -> y.hire(0, 1)).passTo(10);
        int[] days = {0, 3, 4, 5, 6, 199, 200};
        int[] bills = {42, 42, 42, 45, 48, 627, 630};
        for (int i = 0; i < days.length; i++) {
            int in = days[i];
            t.due("in " + in, bills[i], y -> y.billIn(0, in));
        }
        t.after(y -> y.set(0, 90)).due("79", 270, y -> y.billIn(0, 79)).due("80", 270, y -> y.billIn(0, 80));
        t.due("81", 273, y -> y.billIn(0, 81)).after(y -> y.set(1, 99)).due("rate", 91 * 99, y -> y.billIn(0, 81));
        t.passTo(9999).due("the last day", 9999 * 99, y -> y.billIn(0, 0));
        t.due("beyond the last day", 10199 * 99, y -> y.billIn(0, 200)).due("nothing is billed", 0, y -> y.count(4));
        t.end();
    }

    // promise 25: "cost: 0 to 9999"
    private static void splitOnCost() {
        Twins t = new Twins("25: cost").after(y -> y.buySets(2)).after(y -> y.hire(5, 1));
        for (int cost : new int[] {Twins.LOW, -1, 10000, 10001, Twins.HIGH}) {
            t.refuses("cost " + cost, Twins.ARGUMENT, y -> y.splitOn(0, cost, 5));
            t.refuses("without users, " + cost, Twins.ARGUMENT, y -> y.splitOn(1, cost, 0));
            t.refuses("set first, " + cost, Twins.INDEX, y -> y.splitOn(2, cost, 5));
            t.refuses("site first, " + cost, Twins.INDEX, y -> y.splitOn(0, cost, 6));
            t.refuses("site first, " + cost, Twins.INDEX, y -> y.splitOn(0, cost, -1));
        }
        t.due("0", 0, y -> y.splitOn(0, 0, 5)).due("1", 1, y -> y.splitOn(0, 1, 5));
        t.due("9999", 9999, y -> y.splitOn(0, 9999, 5)).due("no user", 0, y -> y.splitOn(0, 9999, 0));
        t.refuses("no set", Twins.INDEX, y -> y.splitOn(2, 0, 0)).due("none", 0, y -> y.splitOn(1, 9999, 5));
        t.due("nobody is billed", 0, y -> y.count(4)).due("nothing is borne", 0, y -> y.count(7));
        t.end();
    }

    // promise 25: "with its users as they are now (also of a set on a site)"
    private static void splitOnUsersAsTheyAreNow() {
        Twins t = new Twins("25: users").after(y -> y.buySets(1)).after(y -> y.hire(1, 1)).after(y -> y.moveOn(0, 2));
        sharesAre(t, 0, 0, 0);
        sharesAre(t, 1, 0, 1);
        sharesAre(t, 2, 1, 1);
        sharesAre(t, 9999, 4999, 5000);
        t.after(y -> y.moveOn(0, 1));
        sharesAre(t, 1, 1, 0);
        sharesAre(t, 2, 2, 0);
        sharesAre(t, 3, 2, 1);
        sharesAre(t, 4, 3, 1);
        sharesAre(t, 5, 4, 1);
        sharesAre(t, 6, 4, 2);
        t.after(y -> y.bring(0));
        sharesAre(t, 9998, 6666, 3332);
        t.after(y -> y.hire(3, 1));
        sharesAre(t, 9998, 3332, 3332);
        t.due("the latest, and the rest", 3334, y -> y.splitOn(0, 9998, 3)).after(y -> y.moveOn(0, 4));
        sharesAre(t, 9998, 3332, 0);
        t.end();
    }

    private static void sharesAre(Twins t, int cost, int first, int second) {
        t.due("1 of " + cost, first, y -> y.splitOn(0, cost, 1));
        t.due("2 of " + cost, second, y -> y.splitOn(0, cost, 2));
    }

    // promise 26: "beyond the shortest term, or just at its end"
    private static void oldestAroundTheTerm() {
        for (int term = 0; term <= 90; term += 45) {
            int days = term;
            Twins t = new Twins("26: term " + days).after(y -> y.buySets(1)).after(y -> y.set(0, days)).passTo(7);
            t.due("in the yard", -1, y -> y.oldest(0)).after(y -> y.hire(0, 1));
            t.due("just come", days == 0 ? 0 : -1, y -> y.oldest(0)).passTo(7 + days - 1);
            t.due("a day before its end", days == 0 ? 0 : -1, y -> y.oldest(0)).passTo(7 + days);
            t.due("just at its end", 0, y -> y.oldest(0)).passTo(8 + days).due("beyond", 0, y -> y.oldest(0));
            t.due("another site", -1, y -> y.oldest(5)).after(y -> y.bring(0)).due("back", -1, y -> y.oldest(0));
            t.end();
        }
    }

    // promise 26: "the one that came first, of several the lowest number"
    private static void oldestOfSeveral() {
        Twins t = new Twins("26: several").after(y -> y.buySets(24)).after(y -> y.hire(5, 1)).after(y -> y.hire(3, 23));
        t.passTo(1).after(y -> y.moveOn(0, 3)).passTo(14).due("of 23", 1, y -> y.oldest(3)).passTo(15);
        t.due("not the one that came later", 1, y -> y.oldest(3));
        for (int set = 1; set <= 22; set++) {
            int s = set;
            t.after(y -> y.bring(s)).due("the next one", s + 1, y -> y.oldest(3));
        }
        t.after(y -> y.bring(23)).due("that came later", 0, y -> y.oldest(3)).after(y -> y.bring(0));
        t.due("none", -1, y -> y.oldest(3));
        t.end();
        Twins later = new Twins("26: a lower number came later").after(y -> y.buySets(2)).after(y -> y.hire(0, 1));
        later.after(y -> y.hire(1, 1)).passTo(5).after(y -> y.moveOn(0, 1)).passTo(18).due("1", 1, y -> y.oldest(1));
        later.passTo(19).due("1", 1, y -> y.oldest(1)).after(y -> y.set(0, 20)).due("none", -1, y -> y.oldest(1));
        later.after(y -> y.set(0, 19)).due("1", 1, y -> y.oldest(1)).after(y -> y.moveOn(1, 0));
        later.due("0 is within it", -1, y -> y.oldest(1)).after(y -> y.set(0, 14)).due("0", 0, y -> y.oldest(1));
        later.end();
    }

    // promise 27: one spare part too few, just enough, one more
    private static void ifRepairedJustEnough() {
        for (int kind = 0; kind < 4; kind++) {
            for (int spare = 0; spare <= WHOLE[kind] + 1; spare++) {
                int k = kind;
                int s = spare;
                Twins t = new Twins("27: kind " + k + ", " + s).after(y -> y.buySets(1));
                t.after(y -> y.damage(0, k, WHOLE[k]));
                if (s > 0) {
                    t.after(y -> y.buySpare(k, s));
                }
                t.due("would be", s >= WHOLE[k] ? 1 : 0, y -> y.ifRepaired()).due("spare stays", s, y -> y.parts(k, 1));
                t.due("not repaired", 0, y -> y.bundle(0, 2)).after(y -> y.repair(0));
                t.due("is", s >= WHOLE[k] ? 1 : 0, y -> y.bundle(0, 2));
                t.end();
            }
        }
    }

    // promise 27: "if all of them were repaired, as repair() does, by ascending numbers"
    private static void ifRepairedByAscendingNumbers() {
        Twins t = new Twins("27: ascending").after(y -> y.buySets(24)).due("all", 24, y -> y.ifRepaired());
        t.after(y -> y.damage(0, 0, 2)).after(y -> y.damage(22, 0, 1)).after(y -> y.damage(23, 3, 1));
        t.due("without spare parts", 21, y -> y.ifRepaired()).after(y -> y.buySpare(0, 1));
        t.due("the first one takes it in vain", 21, y -> y.ifRepaired()).after(y -> y.buySpare(0, 1));
        t.due("the first one", 22, y -> y.ifRepaired()).after(y -> y.buySpare(0, 1));
        t.due("the next one", 23, y -> y.ifRepaired()).after(y -> y.buySpare(3, 1));
        t.due("all", 24, y -> y.ifRepaired()).due("nothing is changed", 21, y -> y.count(2));
        t.due("again", 24, y -> y.ifRepaired());
        t.end();
        Twins mixed = new Twins("27: in vain").after(y -> y.buySets(2)).after(y -> y.damage(0, 0, 1));
        mixed.after(y -> y.damage(0, 1, 1)).after(y -> y.damage(1, 1, 1)).after(y -> y.buySpare(1, 1));
        mixed.due("the first one takes the ledger", 0, y -> y.ifRepaired()).after(y -> y.buySpare(1, 1));
        mixed.due("the second one is whole", 1, y -> y.ifRepaired());
        mixed.end();
    }

    // promise 27: "how many sets in the yard"
    private static void ifRepairedInTheYardAlone() {
        Twins t = new Twins("27: yard").after(y -> y.buySets(3)).after(y -> y.hire(0, 2));
        t.due("1", 1, y -> y.ifRepaired());
        t.after(y -> y.bringShort(0, 1, 4)).due("1", 1, y -> y.ifRepaired()).after(y -> y.buySpare(1, 4));
        t.due("2", 2, y -> y.ifRepaired()).after(y -> y.bring(1)).due("3", 3, y -> y.ifRepaired());
        t.after(y -> y.hire(0, 2)).due("the one that is left", 1, y -> y.ifRepaired()).after(y -> y.repair(0));
        t.after(y -> y.hire(0, 1)).due("all on sites", 0, y -> y.ifRepaired());
        t.end();
    }

    // promise 28: "the sets on sites, as a double, divided by all sets; 0.0 without sets"
    private static void hiredShareOfAll() {
        Twins none = new Twins("28: none");
        none.due("0.0", Double.doubleToLongBits(0.0), y -> Double.doubleToLongBits(y.hiredShare()));
        none.end();
        for (int sets = 1; sets <= 24; sets++) {
            int s = sets;
            Twins t = new Twins("28: of " + s).after(y -> y.buySets(s));
            for (int hired = 0; hired <= s; hired++) {
                long share = Double.doubleToLongBits((double) hired / s);
                t.due("hired " + hired, share, y -> Double.doubleToLongBits(y.hiredShare()));
                if (hired < s) {
                    int site = hired % 6;
                    t.after(y -> y.hire(site, 1));
                }
            }
            t.end();
        }
    }

    // promise 29: without sets, and with an empty buffer
    private static void digestOfNewYard() {
        long due = Digest.of(ScaffoldYard::new, "");
        Twins t = new Twins("29: new").due("by hand", due, y -> y.digest());
        t.due("again", due, y -> y.digest()).due("saved", 0, y -> y.count(9));
        t.end();
    }

    private static ScaffoldYard fullYard(String text) {
        ScaffoldYard y = new ScaffoldYard();
        y.buySets(24);
        for (int i = 0; i < 4; i++) {
            y.buySpare(1, 200);
        }
        y.buySpare(1, 199);
        y.set(0, 90);
        y.set(1, 99);
        y.hire(5, 23);
        for (int i = 0; i < 101; i++) {
            y.pass(99);
        }
        y.bringShort(0, 1, 4);
        y.pay(5, 9999);
        for (char c : text.toCharArray()) {
            y.append(c);
        }
        return y;
    }

    // promise 29: 24 sets, 999 spare parts, day 9999, 60 characters, 6 saved states
    private static void digestOfFullYard() {
        String text = "!~d1;".repeat(12);
        ScaffoldYard y = fullYard(text);
        Check.same("29: the full yard", Digest.of(() -> fullYard(text), text), y.digest());
        Check.same("29: its day", 9999, y.count(3));
        Check.same("29: its spare parts", 999, y.parts(1, 1));
        Check.same("29: its saved states", 6, y.count(9));
        Check.same("29: its text", 60, y.clearBuffer());
    }

    // promise 29: "the length of the buffer and each of its character codes"
    private static void digestSeesEachCharacter() {
        for (int length = 1; length <= 60; length++) {
            String text = "d".repeat(length - 1) + (char) (33 + length);
            ScaffoldYard y = new ScaffoldYard();
            for (char c : text.toCharArray()) {
                y.append(c);
            }
            Check.same("29: " + length + " characters", Digest.of(ScaffoldYard::new, text), y.digest());
        }
    }

    private static ScaffoldYard changed(Twins.Call[] changes, int many) {
        ScaffoldYard y = new ScaffoldYard();
        for (int change = 0; change < many; change++) {
            changes[change].on(y);
        }
        return y;
    }

    // promise 29: after each method that changes the state
    private static void digestSeesEachChange() {
        Twins.Call[] changes = {y -> y.buySets(24), y -> y.hire(0, 2), y -> y.pass(1), y -> y.set(0, 15),
            y -> y.set(1, 4), y -> y.damage(23, 3, 1), y -> y.buySpare(3, 1), y -> y.repair(23), y -> y.moveOn(0, 5),
            y -> y.bring(0), y -> y.bringShort(1, 2, 1), y -> y.pay(0, 1), y -> y.swap(1, 23), y -> y.undo()};
        for (int many = 1; many <= changes.length; many++) {
            int m = many;
            ScaffoldYard y = changed(changes, m - 1);
            long before = y.digest();
            changes[m - 1].on(y);
            long then = y.digest();
            Check.same("29: change " + m, Digest.of(() -> changed(changes, m), ""), then);
            Check.same("29: change " + m + " is seen", 1, before == then ? 0 : 1);
        }
    }
}
