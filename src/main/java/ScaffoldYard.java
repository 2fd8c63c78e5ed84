import java.util.Arrays;

/** A yard that hires sets of scaffold parts out to sites, and keeps their bills. */
public final class ScaffoldYard {
    public static final int NONE = -1;

    private static final int MOST_SETS = 24;
    private static final int SITES = 6;
    private static final int KINDS = 4;
    private static final int USERS = 3;
    private static final int SETTINGS = 2;
    private static final int TERM = 0;
    private static final int RATE = 1;
    private static final int FIRST_TERM = 14;
    private static final int MOST_TERM = 90;
    private static final int FIRST_RATE = 3;
    private static final int MOST_RATE = 99;
    private static final int MOST_SPARE = 999;
    private static final int MOST_SPARE_AT_ONCE = 200;
    private static final int MOST_MONEY = 9999;
    private static final int MOST_COST = 9999;
    private static final int MOST_DAYS = 99;
    private static final int LAST_DAY = 9999;
    private static final int MOST_DAYS_AHEAD = 200;
    private static final int LEAST_CODE = 33;
    private static final int MOST_CODE = 126;
    private static final int MOST_SIGNS = 60;
    private static final int MOST_SAVED = 6;
    private static final int LAST_BUNDLE_WHAT = 13;
    private static final int LAST_SITE_WHAT = 7;
    private static final int LAST_PARTS_WHAT = 4;
    private static final int LAST_COUNT_WHAT = 9;

    /** How many parts of each kind a whole set has. */
    private static final int[] WHOLE = {2, 4, 3, 1};
    /** What a part of each kind costs. */
    private static final int[] PRICE = {40, 15, 20, 5};

    private final Books books;
    private final History history;
    private final OrderText text;
    /** Scratch for ifRepaired, kept so that no call makes a row. */
    private final int[] spareLeft;

    public ScaffoldYard() {
        books = new Books();
        history = new History();
        text = new OrderText();
        spareLeft = new int[KINDS];
    }

    // ---- the yard

    public int buySets(int many) throws IllegalArgumentException, IllegalStateException {
        if (many < 1 || many > MOST_SETS) {
            throw new IllegalArgumentException("many is out of range");
        }
        if (books.sets + many > MOST_SETS) {
            throw new IllegalStateException("there would be too many sets");
        }
        history.keep(books);
        books.addSets(many);
        return books.sets;
    }

    public int buySpare(int kind, int many)
            throws IndexOutOfBoundsException, IllegalArgumentException, IllegalStateException {
        needKind(kind);
        if (many < 1 || many > MOST_SPARE_AT_ONCE) {
            throw new IllegalArgumentException("many is out of range");
        }
        if (at(books.spare, kind) + many > MOST_SPARE) {
            throw new IllegalStateException("there would be too many spare parts");
        }
        history.keep(books);
        books.addSpare(kind, many);
        return at(books.spare, kind);
    }

    public int repair(int set) throws IndexOutOfBoundsException, IllegalStateException {
        needSet(set);
        needInYard(set);
        history.keep(books);
        return books.fillUp(set);
    }

    public int damage(int set, int kind, int many)
            throws IndexOutOfBoundsException, IllegalArgumentException, IllegalStateException {
        needSet(set);
        needKind(kind);
        needAtLeastOne(many);
        needInYard(set);
        needStock(set, kind, many);
        history.keep(books);
        return books.chargeDamage(set, kind, many);
    }

    public int swap(int set, int other) throws IndexOutOfBoundsException, IllegalStateException {
        needSet(set);
        needSet(other);
        needInYard(set);
        needInYard(other);
        history.keep(books);
        books.exchangeParts(set, other);
        return books.partsIn(set);
    }

    // ---- hires

    public int hire(int site, int many)
            throws IndexOutOfBoundsException, IllegalArgumentException, IllegalStateException {
        needSite(site);
        if (many < 1 || many > MOST_SETS) {
            throw new IllegalArgumentException("many is out of range");
        }
        if (books.wholeInYard() < many) {
            throw new IllegalStateException("there are not so many whole sets in the yard");
        }
        history.keep(books);
        books.hireOut(site, many);
        return books.wholeInYard();
    }

    public int moveOn(int set, int site) throws IndexOutOfBoundsException, IllegalStateException {
        needSet(set);
        needSite(site);
        if (!books.canMove(set, site)) {
            throw new IllegalStateException("the set is in the yard or on this site");
        }
        history.keep(books);
        return books.moveTo(set, site);
    }

    public int bring(int set) throws IndexOutOfBoundsException, IllegalStateException {
        needSet(set);
        needOnSite(set);
        history.keep(books);
        return books.takeBack(set);
    }

    public int bringShort(int set, int kind, int many)
            throws IndexOutOfBoundsException, IllegalArgumentException, IllegalStateException {
        needSet(set);
        needKind(kind);
        needAtLeastOne(many);
        needOnSite(set);
        needStock(set, kind, many);
        history.keep(books);
        return books.takeBackShort(set, kind, many);
    }

    public int pay(int site, int money)
            throws IndexOutOfBoundsException, IllegalArgumentException, IllegalStateException {
        needSite(site);
        if (money < 1 || money > MOST_MONEY) {
            throw new IllegalArgumentException("money is out of range");
        }
        if (books.billOf(site) < money) {
            throw new IllegalStateException("the bill is less than that");
        }
        history.keep(books);
        add(books.paid, site, money);
        return books.billOf(site);
    }

    public int pass(int days) throws IllegalArgumentException, IllegalStateException {
        if (days < 1 || days > MOST_DAYS) {
            throw new IllegalArgumentException("days is out of range");
        }
        if (!books.canPass(days)) {
            throw new IllegalStateException("the day would be too late");
        }
        history.keep(books);
        books.day += days;
        return books.day;
    }

    public int set(int setting, int value) throws IndexOutOfBoundsException, IllegalArgumentException {
        needSetting(setting);
        if (!isSettingValue(setting, value)) {
            throw new IllegalArgumentException("value is out of range");
        }
        history.keep(books);
        int previous = at(books.settings, setting);
        put(books.settings, setting, value);
        return previous;
    }

    // ---- texts

    public int append(int code) throws IllegalArgumentException, IllegalStateException {
        if (code < LEAST_CODE || code > MOST_CODE) {
            throw new IllegalArgumentException("code is out of range");
        }
        if (text.length >= MOST_SIGNS) {
            throw new IllegalStateException("the buffer is full");
        }
        text.write(code);
        return text.length;
    }

    public int clearBuffer() {
        int previous = text.length;
        text.wipe();
        return previous;
    }

    public int firstError() {
        return text.firstFault();
    }

    public int run() throws IllegalArgumentException {
        if (!text.isRowOfOrders()) {
            throw new IllegalArgumentException("the buffer is not a complete row of orders");
        }
        history.keep(books);
        int done = 0;
        text.rewind();
        while (done < MOST_SIGNS && text.readOrder() && carryOut()) {
            done++;
            text.readSign(';');
        }
        text.wipe();
        return done;
    }

    public int undo() throws IllegalStateException {
        if (history.saved < 1) {
            throw new IllegalStateException("there is no saved state");
        }
        history.giveBack(books);
        return history.saved;
    }

    // ---- what there is

    public int bundle(int set, int what) throws IndexOutOfBoundsException, IllegalArgumentException {
        needSet(set);
        if (!isBundleWhat(what)) {
            throw new IllegalArgumentException("there is no such property of a set");
        }
        return books.bundleValue(set, what);
    }

    public int site(int site, int what) throws IndexOutOfBoundsException, IllegalArgumentException {
        needSite(site);
        if (what < 0 || what > LAST_SITE_WHAT) {
            throw new IllegalArgumentException("there is no such property of a site");
        }
        return books.siteValue(site, what);
    }

    public int parts(int kind, int what) throws IndexOutOfBoundsException, IllegalArgumentException {
        needKind(kind);
        if (what < 0 || what > LAST_PARTS_WHAT) {
            throw new IllegalArgumentException("there is no such number of parts");
        }
        return books.partsValue(kind, what);
    }

    public int count(int what) throws IllegalArgumentException {
        if (what < 0 || what > LAST_COUNT_WHAT) {
            throw new IllegalArgumentException("there is no such number");
        }
        return countValue(what);
    }

    public int setting(int setting) throws IndexOutOfBoundsException {
        needSetting(setting);
        return at(books.settings, setting);
    }

    // ---- what would be; nothing is changed

    public int billIn(int set, int days) throws IndexOutOfBoundsException, IllegalArgumentException {
        needSet(set);
        if (days < 0 || days > MOST_DAYS_AHEAD) {
            throw new IllegalArgumentException("days is out of range");
        }
        return books.hireBill(set, days);
    }

    public int splitOn(int set, int cost, int site)
            throws IndexOutOfBoundsException, IllegalArgumentException {
        needSet(set);
        needSite(site);
        if (cost < 0 || cost > MOST_COST) {
            throw new IllegalArgumentException("cost is out of range");
        }
        return books.shareOf(set, cost, site);
    }

    public int oldest(int site) throws IndexOutOfBoundsException {
        needSite(site);
        return books.firstDue(site);
    }

    public int ifRepaired() {
        copy(books.spare, spareLeft);
        int whole = 0;
        for (int set = 0; set < books.sets; set++) {
            if (books.isInYard(set) && wouldBeWhole(set)) {
                whole++;
            }
        }
        return whole;
    }

    public double hiredShare() {
        int all = books.sets;
        if (all < 1) {
            return 0.0;
        }
        return (double) (all - books.inYard()) / (double) all;
    }

    public long digest() {
        long hash = 2549L;
        for (int what = 0; what <= LAST_COUNT_WHAT; what++) {
            hash = mix(hash, countValue(what));
        }
        for (int setting = 0; setting < SETTINGS; setting++) {
            hash = mix(hash, at(books.settings, setting));
        }
        for (int set = 0; set < books.sets; set++) {
            hash = mixSet(hash, set);
        }
        for (int site = 0; site < SITES; site++) {
            hash = mixSite(hash, site);
        }
        for (int kind = 0; kind < KINDS; kind++) {
            for (int what = 0; what <= LAST_PARTS_WHAT; what++) {
                hash = mix(hash, books.partsValue(kind, what));
            }
        }
        hash = mix(hash, ifRepaired());
        hash = mix(hash, bitsOfShare(hiredShare()));
        return mixText(hash);
    }

    // ---- what a call needs

    private void needSet(int set) {
        if (!books.isSet(set)) {
            throw new IndexOutOfBoundsException("there is no such set");
        }
    }

    private static void needSite(int site) {
        if (site < 0 || site >= SITES) {
            throw new IndexOutOfBoundsException("there is no such site");
        }
    }

    private static void needKind(int kind) {
        if (kind < 0 || kind >= KINDS) {
            throw new IndexOutOfBoundsException("there is no such kind");
        }
    }

    private static void needSetting(int setting) {
        if (setting < 0 || setting >= SETTINGS) {
            throw new IndexOutOfBoundsException("there is no such setting");
        }
    }

    private static void needAtLeastOne(int many) {
        if (many < 1) {
            throw new IllegalArgumentException("many is below 1");
        }
    }

    private void needInYard(int set) {
        if (!books.isInYard(set)) {
            throw new IllegalStateException("the set is not in the yard");
        }
    }

    private void needOnSite(int set) {
        if (!books.isOnSite(set)) {
            throw new IllegalStateException("the set is in the yard");
        }
    }

    private void needStock(int set, int kind, int many) {
        if (books.stockOf(set, kind) < many) {
            throw new IllegalStateException("the set has not so many parts of the kind");
        }
    }

    private static boolean isSettingValue(int setting, int value) {
        if (setting == TERM) {
            return value >= 0 && value <= MOST_TERM;
        }
        return value >= 1 && value <= MOST_RATE;
    }

    private static boolean isBundleWhat(int what) {
        return what >= 0 && what <= LAST_BUNDLE_WHAT && what != 9;
    }

    // ---- orders

    /** Carries out the order just read; false, and nothing is changed, if its method would throw. */
    private boolean carryOut() {
        switch (text.letter) {
            case 'h':
                return hireByText(text.first, text.second);
            case 'm':
                return moveByText(text.first, text.second);
            case 'b':
                return bringByText(text.first);
            case 'd':
                return passByText(text.first);
            default:
                return false;
        }
    }

    private boolean hireByText(int site, int many) {
        if (books.wholeInYard() < many) {
            return false;
        }
        books.hireOut(site, many);
        return true;
    }

    private boolean moveByText(int set, int site) {
        if (!books.canMove(set, site)) {
            return false;
        }
        books.moveTo(set, site);
        return true;
    }

    private boolean bringByText(int set) {
        if (!books.isOnSite(set)) {
            return false;
        }
        books.takeBack(set);
        return true;
    }

    private boolean passByText(int days) {
        if (!books.canPass(days)) {
            return false;
        }
        books.day += days;
        return true;
    }

    // ---- numbers

    private int countValue(int what) {
        return what == LAST_COUNT_WHAT ? history.saved : books.countValue(what);
    }

    /** Takes from spareLeft what the set lacks; tells if that was enough. */
    private boolean wouldBeWhole(int set) {
        boolean whole = true;
        for (int kind = 0; kind < KINDS; kind++) {
            int lack = books.lackOf(set, kind);
            int taken = Math.min(lack, at(spareLeft, kind));
            add(spareLeft, kind, -taken);
            whole = whole && taken == lack;
        }
        return whole;
    }

    private static long mix(long hash, long value) {
        return 31L * hash + value;
    }

    private long mixSet(long hash, int set) {
        long mixed = hash;
        for (int what = 0; what <= LAST_BUNDLE_WHAT; what++) {
            if (isBundleWhat(what)) {
                mixed = mix(mixed, books.bundleValue(set, what));
            }
        }
        mixed = mix(mixed, books.hireBill(set, 30));
        for (int site = 0; site < SITES; site++) {
            mixed = mix(mixed, books.shareOf(set, 100, site));
        }
        return mixed;
    }

    private long mixSite(long hash, int site) {
        long mixed = hash;
        for (int what = 0; what <= LAST_SITE_WHAT; what++) {
            mixed = mix(mixed, books.siteValue(site, what));
        }
        return mix(mixed, books.firstDue(site));
    }

    private long mixText(long hash) {
        long mixed = mix(hash, text.length);
        for (int place = 0; place < text.length; place++) {
            mixed = mix(mixed, at(text.codes, place));
        }
        return mixed;
    }

    /**
     * The bits of a double from 0.0 to 1.0, as Double.doubleToLongBits tells them: that function
     * is not in the library that LANGUAGE.md leaves. Doubling is exact, so no bit is lost.
     */
    private static long bitsOfShare(double share) {
        if (!(share > 0.0)) {
            return 0L;
        }
        double scaled = share;
        long exponent = 1023L;
        for (int step = 0; step < 1000 && scaled < 1.0; step++) {
            scaled = scaled * 2.0;
            exponent--;
        }
        long fraction = (long) ((scaled - 1.0) * (double) (1L << 52));
        return (exponent << 52) + fraction;
    }

    // ---- rows: no index is used before it is tested

    private static int at(int[] row, int index) {
        return row != null && index >= 0 && index < row.length ? row[index] : 0;
    }

    private static void put(int[] row, int index, int value) {
        if (row != null && index >= 0 && index < row.length) {
            row[index] = value;
        }
    }

    private static void add(int[] row, int index, int more) {
        put(row, index, at(row, index) + more);
    }

    private static void copy(int[] from, int[] to) {
        if (from != null && to != null) {
            System.arraycopy(from, 0, to, 0, Math.min(from.length, to.length));
        }
    }

    /** All that undo restores. */
    private static final class Books {
        int sets;
        int day;
        int hires;
        /** What the yard bore of damage. */
        int borne;
        /** What was paid for sets and spare parts. */
        int spent;
        final int[] settings = {FIRST_TERM, FIRST_RATE};
        /** For each set the site on which it is, NONE in the yard. */
        final int[] where = new int[MOST_SETS];
        final int[] came = new int[MOST_SETS];
        /** For each set on how many sites it was. */
        final int[] stays = new int[MOST_SETS];
        /** For each set its users in a row, the latest first. */
        final int[] users = new int[MOST_SETS * USERS];
        /** For each set its parts of each kind in a row. */
        final int[] stock = new int[MOST_SETS * KINDS];
        final int[] spare = new int[KINDS];
        final int[] charged = new int[KINDS];
        final int[] billedByHires = new int[SITES];
        final int[] billedByMissing = new int[SITES];
        final int[] billedByDamage = new int[SITES];
        final int[] paid = new int[SITES];

        Books() {
            Arrays.fill(where, NONE);
            Arrays.fill(users, NONE);
        }

        void copyFrom(Books other) {
            if (other == null) {
                return;
            }
            sets = other.sets;
            day = other.day;
            hires = other.hires;
            borne = other.borne;
            spent = other.spent;
            copy(other.settings, settings);
            copy(other.where, where);
            copy(other.came, came);
            copy(other.stays, stays);
            copy(other.users, users);
            copy(other.stock, stock);
            copy(other.spare, spare);
            copy(other.charged, charged);
            copy(other.billedByHires, billedByHires);
            copy(other.billedByMissing, billedByMissing);
            copy(other.billedByDamage, billedByDamage);
            copy(other.paid, paid);
        }

        // -- sets and their parts

        boolean isSet(int set) {
            return set >= 0 && set < sets;
        }

        boolean isInYard(int set) {
            return isSet(set) && at(where, set) == NONE;
        }

        boolean isOnSite(int set) {
            return isSet(set) && at(where, set) != NONE;
        }

        boolean isOn(int set, int site) {
            return isOnSite(set) && at(where, set) == site;
        }

        int stockOf(int set, int kind) {
            return at(stock, set * KINDS + kind);
        }

        int lackOf(int set, int kind) {
            return at(WHOLE, kind) - at(stock, set * KINDS + kind);
        }

        int partsIn(int set) {
            int all = 0;
            for (int kind = 0; kind < KINDS; kind++) {
                all += stockOf(set, kind);
            }
            return all;
        }

        boolean isWhole(int set) {
            for (int kind = 0; kind < KINDS; kind++) {
                if (at(stock, set * KINDS + kind) < at(WHOLE, kind)) {
                    return false;
                }
            }
            return true;
        }

        int inYard() {
            int many = 0;
            for (int set = 0; set < sets; set++) {
                if (isInYard(set)) {
                    many++;
                }
            }
            return many;
        }

        int wholeInYard() {
            int many = 0;
            for (int set = 0; set < sets; set++) {
                if (isInYard(set) && isWhole(set)) {
                    many++;
                }
            }
            return many;
        }

        // -- the yard

        void addSets(int many) {
            for (int bought = 0; bought < many && sets < MOST_SETS; bought++) {
                for (int kind = 0; kind < KINDS; kind++) {
                    put(stock, sets * KINDS + kind, at(WHOLE, kind));
                    spent += at(WHOLE, kind) * at(PRICE, kind);
                }
                sets++;
            }
        }

        void addSpare(int kind, int many) {
            add(spare, kind, many);
            spent += many * at(PRICE, kind);
        }

        int fillUp(int set) {
            int all = 0;
            for (int kind = 0; kind < KINDS; kind++) {
                int taken = Math.min(lackOf(set, kind), at(spare, kind));
                add(spare, kind, -taken);
                add(stock, set * KINDS + kind, taken);
                all += taken;
            }
            return all;
        }

        /** The parts are gone from the set; tells what they cost. */
        int charge(int set, int kind, int many) {
            add(stock, set * KINDS + kind, -many);
            add(charged, kind, many);
            return many * at(PRICE, kind);
        }

        int chargeDamage(int set, int kind, int many) {
            int cost = charge(set, kind, many);
            if (usersOf(set) == 0) {
                borne += cost;
            }
            for (int site = 0; site < SITES; site++) {
                add(billedByDamage, site, shareOf(set, cost, site));
            }
            return cost;
        }

        void exchangeParts(int set, int other) {
            for (int kind = 0; kind < KINDS; kind++) {
                int mine = stockOf(set, kind);
                put(stock, set * KINDS + kind, stockOf(other, kind));
                put(stock, other * KINDS + kind, mine);
            }
        }

        // -- users

        int userOf(int set, int rank) {
            return at(users, set * USERS + rank);
        }

        int usersOf(int set) {
            int many = 0;
            for (int rank = 0; rank < USERS; rank++) {
                if (userOf(set, rank) != NONE) {
                    many++;
                }
            }
            return many;
        }

        void addUser(int set, int site) {
            for (int rank = USERS - 1; rank > 0; rank--) {
                put(users, set * USERS + rank, at(users, set * USERS + rank - 1));
            }
            put(users, set * USERS, site);
        }

        /** What the site bears of damage in the set; the latest user bears the rest, too. */
        int shareOf(int set, int cost, int site) {
            int many = usersOf(set);
            if (many < 1) {
                return 0;
            }
            int each = cost / many;
            int share = 0;
            for (int rank = 0; rank < USERS; rank++) {
                if (userOf(set, rank) == site) {
                    share += each;
                }
            }
            if (userOf(set, 0) == site) {
                share += cost - each * many;
            }
            return share;
        }

        // -- hires

        boolean canMove(int set, int site) {
            return isOnSite(set) && !isOn(set, site);
        }

        boolean canPass(int days) {
            return day + days <= LAST_DAY;
        }

        void hireOut(int site, int many) {
            int left = many;
            for (int set = 0; set < sets && left > 0; set++) {
                if (isInYard(set) && isWhole(set)) {
                    comeTo(set, site);
                    left--;
                }
            }
        }

        void comeTo(int set, int site) {
            put(where, set, site);
            put(came, set, day);
            add(stays, set, 1);
            addUser(set, site);
            hires++;
        }

        /** What the set's site is billed for, if the set leaves in so many days; 0 in the yard. */
        int hireBill(int set, int days) {
            if (at(where, set) == NONE) {
                return 0;
            }
            int stay = day + days - at(came, set);
            return Math.max(stay, at(settings, TERM)) * at(settings, RATE);
        }

        int billForHire(int set) {
            int bill = hireBill(set, 0);
            add(billedByHires, at(where, set), bill);
            return bill;
        }

        void comeHome(int set) {
            put(where, set, NONE);
            put(came, set, day);
        }

        int moveTo(int set, int site) {
            int bill = billForHire(set);
            comeTo(set, site);
            return bill;
        }

        int takeBack(int set) {
            int bill = billForHire(set);
            comeHome(set);
            return bill;
        }

        int takeBackShort(int set, int kind, int many) {
            int cost = charge(set, kind, many);
            add(billedByMissing, at(where, set), cost);
            return takeBack(set) + cost;
        }

        // -- sites

        int billedSoFar(int site) {
            return at(billedByHires, site) + at(billedByMissing, site) + at(billedByDamage, site);
        }

        int billOf(int site) {
            return billedSoFar(site) - at(paid, site);
        }

        int setsOn(int site) {
            int many = 0;
            for (int set = 0; set < sets; set++) {
                if (isOn(set, site)) {
                    many++;
                }
            }
            return many;
        }

        int billIfAllLeft(int site) {
            int bill = 0;
            for (int set = 0; set < sets; set++) {
                if (isOn(set, site)) {
                    bill += hireBill(set, 0);
                }
            }
            return bill;
        }

        boolean isWithinTerm(int set) {
            return day - at(came, set) < at(settings, TERM);
        }

        int setsWithinTerm(int site) {
            int many = 0;
            for (int set = 0; set < sets; set++) {
                if (isOn(set, site) && isWithinTerm(set)) {
                    many++;
                }
            }
            return many;
        }

        int firstDue(int site) {
            int best = NONE;
            for (int set = 0; set < sets; set++) {
                if (isOn(set, site) && !isWithinTerm(set)
                        && (best == NONE || at(came, set) < at(came, best))) {
                    best = set;
                }
            }
            return best;
        }

        // -- what there is

        int bundleValue(int set, int what) {
            switch (what) {
                case 0:
                    return at(where, set);
                case 1:
                    return at(came, set);
                case 2:
                    return isWhole(set) ? 1 : 0;
                case 3:
                    return partsIn(set);
                case 4:
                case 5:
                case 6:
                    return userOf(set, what - 4);
                case 7:
                    return hireBill(set, 0);
                case 8:
                    return at(stays, set);
                default:
                    return stockOf(set, what - 10);
            }
        }

        int siteValue(int site, int what) {
            switch (what) {
                case 0:
                    return setsOn(site);
                case 1:
                    return billOf(site);
                case 2:
                    return at(billedByHires, site);
                case 3:
                    return at(billedByMissing, site);
                case 4:
                    return at(billedByDamage, site);
                case 5:
                    return at(paid, site);
                case 6:
                    return billIfAllLeft(site);
                default:
                    return setsWithinTerm(site);
            }
        }

        int partsInSets(int kind) {
            int all = 0;
            for (int set = 0; set < sets; set++) {
                all += stockOf(set, kind);
            }
            return all;
        }

        int partsValue(int kind, int what) {
            switch (what) {
                case 0:
                    return partsInSets(kind);
                case 1:
                    return at(spare, kind);
                case 2:
                    return at(charged, kind);
                case 3:
                    return partsInSets(kind) + at(spare, kind) + at(charged, kind);
                default:
                    return sets * at(WHOLE, kind) - partsInSets(kind);
            }
        }

        int billedToAll() {
            int all = 0;
            for (int site = 0; site < SITES; site++) {
                all += billedSoFar(site);
            }
            return all;
        }

        int paidByAll() {
            int all = 0;
            for (int site = 0; site < SITES; site++) {
                all += at(paid, site);
            }
            return all;
        }

        /** The numbers of count() but the saved states, which no state holds. */
        int countValue(int what) {
            switch (what) {
                case 0:
                    return sets;
                case 1:
                    return inYard();
                case 2:
                    return wholeInYard();
                case 3:
                    return day;
                case 4:
                    return billedToAll();
                case 5:
                    return paidByAll();
                case 6:
                    return hires;
                case 7:
                    return borne;
                default:
                    return spent;
            }
        }
    }

    /** The saved states, in a ring of books that are used again. */
    private static final class History {
        final Books[] ring = new Books[MOST_SAVED];
        int saved;
        /** The place that the next saved state takes. */
        int next;

        History() {
            for (int place = 0; place < ring.length; place++) {
                ring[place] = new Books();
            }
        }

        Books bookAt(int place) {
            return place >= 0 && place < ring.length ? ring[place] : null;
        }

        void keep(Books now) {
            Books book = bookAt(next);
            if (book == null) {
                return;
            }
            book.copyFrom(now);
            next = (next + 1) % MOST_SAVED;
            saved = Math.min(saved + 1, MOST_SAVED);
        }

        void giveBack(Books now) {
            if (now == null || saved < 1) {
                return;
            }
            next = (next + MOST_SAVED - 1) % MOST_SAVED;
            now.copyFrom(bookAt(next));
            saved--;
        }
    }

    /** The buffer, and a reader that goes over it from left to right. */
    private static final class OrderText {
        final int[] codes = new int[MOST_SIGNS];
        int length;
        /** Where the reader is; when it fails, the first sign that it can't take. */
        int place;
        /** The order read last: its letter and its numbers in the order of the text. */
        int letter;
        int first;
        int second;

        void write(int code) {
            if (length < MOST_SIGNS) {
                put(codes, length, code);
                length++;
            }
        }

        void wipe() {
            length = 0;
        }

        void rewind() {
            place = 0;
        }

        /** The sign at the reader, NONE at the end. */
        int sign() {
            return place < length ? at(codes, place) : NONE;
        }

        /** The digit at the reader, NONE if there is none. */
        int digit() {
            int sign = place < length ? at(codes, place) : NONE;
            return sign >= '0' && sign <= '9' ? sign - '0' : NONE;
        }

        boolean readSign(int wanted) {
            if (sign() != wanted) {
                return false;
            }
            place++;
            return true;
        }

        /**
         * Reads a number from least (0 or 1) to most (below 100); NONE if none begins here. A digit
         * that would lead out of the range is left for what comes next, which can't take it either.
         */
        int readNumber(int least, int most) {
            int tens = digit();
            if (tens == NONE || tens < least || tens > most) {
                return NONE;
            }
            place++;
            int ones = digit();
            if (tens == 0 || ones == NONE || tens * 10 + ones > most) {
                return tens;
            }
            place++;
            return tens * 10 + ones;
        }

        boolean readOrder() {
            letter = sign();
            switch (letter) {
                case 'h':
                    place++;
                    return readPair(0, SITES - 1, '*', 1, MOST_SETS);
                case 'm':
                    place++;
                    return readPair(0, MOST_SETS - 1, '>', 0, SITES - 1);
                case 'b':
                    place++;
                    first = readNumber(0, MOST_SETS - 1);
                    return first != NONE;
                case 'd':
                    place++;
                    first = readNumber(1, MOST_DAYS);
                    return first != NONE;
                default:
                    return false;
            }
        }

        boolean readPair(int least, int most, int between, int secondLeast, int secondMost) {
            first = readNumber(least, most);
            if (first == NONE || !readSign(between)) {
                return false;
            }
            second = readNumber(secondLeast, secondMost);
            return second != NONE;
        }

        int firstFault() {
            rewind();
            for (int orders = 0; orders < MOST_SIGNS; orders++) {
                if (!readOrder() || !readSign(';')) {
                    return place;
                }
            }
            return place;
        }

        boolean isRowOfOrders() {
            rewind();
            for (int orders = 0; orders < MOST_SIGNS; orders++) {
                if (!readOrder()) {
                    return false;
                }
                if (!readSign(';')) {
                    return place >= length;
                }
            }
            return false;
        }
    }
}
