import java.util.function.Supplier;

/** The hash of promise 29, computed from the answers of the other methods. */
final class Digest {
    private static final int[] WHATS = {0, 1, 2, 3, 4, 5, 6, 7, 8, 10, 11, 12, 13};

    private Digest() {
    }

    private static long next(long hash, long value) {
        return 31 * hash + value;
    }

    /** Each yard that is made is the same; several are asked, as one answers no more than 512 calls. */
    static long of(Supplier<ScaffoldYard> made, String text) {
        ScaffoldYard y = made.get();
        long hash = 2549;
        for (int what = 0; what <= 9; what++) {
            hash = next(hash, y.count(what));
        }
        hash = next(next(hash, y.setting(0)), y.setting(1));
        for (int set = 0; set < y.count(0); set++) {
            hash = ofSet(made.get(), set, hash);
        }
        for (int site = 0; site < 6; site++) {
            hash = ofSite(y, site, hash);
        }
        for (int kind = 0; kind < 4; kind++) {
            for (int what = 0; what <= 4; what++) {
                hash = next(hash, y.parts(kind, what));
            }
        }
        hash = next(hash, y.ifRepaired());
        hash = next(hash, Double.doubleToLongBits(y.hiredShare()));
        hash = next(hash, text.length());
        for (char c : text.toCharArray()) {
            hash = next(hash, c);
        }
        return hash;
    }

    private static long ofSet(ScaffoldYard y, int set, long before) {
        long hash = before;
        for (int what : WHATS) {
            hash = next(hash, y.bundle(set, what));
        }
        hash = next(hash, y.billIn(set, 30));
        for (int site = 0; site < 6; site++) {
            hash = next(hash, y.splitOn(set, 100, site));
        }
        return hash;
    }

    private static long ofSite(ScaffoldYard y, int site, long before) {
        long hash = before;
        for (int what = 0; what <= 7; what++) {
            hash = next(hash, y.site(site, what));
        }
        return next(hash, y.oldest(site));
    }
}
