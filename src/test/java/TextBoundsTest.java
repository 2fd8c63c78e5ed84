import java.util.HashSet;
import java.util.Set;
import java.util.TreeSet;

/** The boundaries that the promises 14 to 18 name: the buffer, its orders, run and undo. */
public final class TextBoundsTest {
    /** Each order that there is, written out as the chapter "Input text" tells them. */
    private static final Set<String> ORDERS = allOrders();
    private static final Set<String> BEGINNINGS = allBeginnings();

    public static void main(String[] args) {
        appendCodes();
        appendUpTo60();
        clearBufferLengths();
        firstErrorOfEmptyBuffer();
        firstErrorAfterEachBeginning();
        firstErrorIsTheFirst();
        firstErrorOfFullBuffer();
        firstErrorChangesNothing();
        firstErrorKnowsNoState();
        runCompleteRowsAlone();
        runWhatIsNotComplete();
        runFullBuffer();
        runStopsAtFirstRefusedOrder();
        runStopsAtBoundaries();
        runAsTheMethodsDo();
        runIsSavedOnce();
        undoNone();
        undoSixAndNoMore();
        Check.finish("TextBoundsTest");
    }

    private static Set<String> allOrders() {
        Set<String> orders = new TreeSet<>();
        for (int site = 0; site <= 5; site++) {
            for (int sets = 1; sets <= 24; sets++) {
                orders.add("h" + site + "*" + sets);
            }
            for (int set = 0; set <= 23; set++) {
                orders.add("m" + set + ">" + site);
            }
        }
        for (int set = 0; set <= 23; set++) {
            orders.add("b" + set);
        }
        for (int days = 1; days <= 99; days++) {
            orders.add("d" + days);
        }
        return orders;
    }

    private static Set<String> allBeginnings() {
        Set<String> beginnings = new TreeSet<>();
        for (String order : ORDERS) {
            for (int length = 0; length <= order.length(); length++) {
                beginnings.add(order.substring(0, length));
            }
        }
        return beginnings;
    }

    private static ScaffoldYard written(String text) {
        ScaffoldYard y = new ScaffoldYard();
        for (char c : text.toCharArray()) {
            y.append(c);
        }
        return y;
    }

    // promise 14: "code: the character code, 33 to 126"
    private static void appendCodes() {
        Twins t = new Twins("14: codes");
        for (int code : new int[] {Twins.LOW, -1, 0, 10, 31, 32, 127, 128, 255, 256 + 'd', 65536 + 'd', Twins.HIGH}) {
            t.refuses("code " + code, Twins.ARGUMENT, y -> y.append(code));
        }
        t.due("33", 1, y -> y.append(33)).due("34", 2, y -> y.append(34)).due("125", 3, y -> y.append(125));
        t.due("126", 4, y -> y.append(126));
        t.end();
        ScaffoldYard all = new ScaffoldYard();
        for (int code = 33; code <= 126; code++) {
            int length = (code - 33) % 60;
            if (length == 0) {
                all.clearBuffer();
            }
            Check.same("14: code " + code, length + 1, all.append(code));
        }
    }

    // promise 14: "if the buffer has 60 characters"
    private static void appendUpTo60() {
        Twins t = new Twins("14: 60");
        for (int length = 1; length <= 60; length++) {
            t.due("length", length, y -> y.append('d'));
        }
        t.refuses("61", Twins.STATE, y -> y.append('d')).refuses("61", Twins.STATE, y -> y.append(33));
        t.refuses("61", Twins.STATE, y -> y.append(126));
        for (int code : new int[] {Twins.LOW, 32, 127, Twins.HIGH}) {
            t.refuses("argument first, " + code, Twins.ARGUMENT, y -> y.append(code));
        }
        t.due("60", 60, y -> y.clearBuffer()).due("anew", 1, y -> y.append('d'));
        t.end();
    }

    // promise 15: "Returns the length that it had."
    private static void clearBufferLengths() {
        for (int length = 0; length <= 60; length++) {
            Twins t = new Twins("15: of " + length).write("!".repeat(length));
            t.due("it had", length, y -> y.clearBuffer()).due("empty", 0, y -> y.clearBuffer());
            t.due("no error", 0, y -> y.firstError()).due("one", 1, y -> y.append('~'));
            t.end();
        }
    }

    // promise 16: "the length of the buffer if there is none"
    private static void firstErrorOfEmptyBuffer() {
        Twins t = new Twins("16: empty").due("none", 0, y -> y.firstError()).write("x");
        t.due("the first", 0, y -> y.firstError()).after(y -> y.clearBuffer()).due("none", 0, y -> y.firstError());
        t.end();
    }

    /**
     * Promise 16, and each number of "Input text": each character after each beginning of an order.
     * An order alone, and one that follows another one.
     */
    private static void firstErrorAfterEachBeginning() {
        for (String beginning : BEGINNINGS) {
            for (char c = 33; c <= 126; c++) {
                boolean goesOn = BEGINNINGS.contains(beginning + c) || c == ';' && ORDERS.contains(beginning);
                int due = beginning.length() + (goesOn ? 1 : 0);
                Check.same("16: " + beginning + c, due, written(beginning + c).firstError());
            }
            Check.same("16: " + beginning, beginning.length() + 3, written("d9;" + beginning).firstError());
            Check.same("16: x after " + beginning, beginning.length() + 5,
                    written("m0>0;" + beginning + "x").firstError());
        }
    }

    // promise 16: "the first character that is a syntax error", also if there are more
    private static void firstErrorIsTheFirst() {
        Check.same("16: all wrong", 0, written("xxxx").firstError());
        Check.same("16: two", 2, written("d1x;x").firstError());
        Check.same("16: right after it", 2, written("d0;d1".substring(0, 1) + "1d1;d1").firstError());
        Check.same("16: a leading zero", 2, written("b01;d100").firstError());
        Check.same("16: after many", 15, written("b0;d1;h0*1;b1;dd;d1").firstError());
    }

    // "The buffer has at most 60 characters", "a row of orders, of any length"
    private static void firstErrorOfFullBuffer() {
        String row = "d1;".repeat(20);
        Check.same("16: 60, goes on", 60, written(row).firstError());
        Check.same("16: 60, ends with an order", 60, written(row.substring(0, 57) + "h0*").firstError());
        Check.same("16: 60, wrong at the last one", 59, written(row.substring(0, 59) + "x").firstError());
        Check.same("16: 60, wrong at the first one", 0, written("x" + row.substring(1)).firstError());
        Check.same("16: 60, the last one goes on", 60, written("m23>5;".repeat(9) + "b0;h0*").firstError());
    }

    // promise 16: asked again, and after others that read the buffer
    private static void firstErrorChangesNothing() {
        Twins t = new Twins("16: again").write("d1;b").due("none", 4, y -> y.firstError());
        t.due("again", 4, y -> y.firstError()).refuses("run", Twins.ARGUMENT, y -> y.run());
        t.due("after run", 4, y -> y.firstError()).write("x").due("at the end", 4, y -> y.firstError());
        t.due("again", 4, y -> y.firstError()).due("not cleared", 5, y -> y.clearBuffer());
        t.due("cleared", 0, y -> y.firstError()).write("x1;b;").due("another text", 0, y -> y.firstError());
        t.after(y -> y.clearBuffer()).write("b1;d9x;").due("another text", 5, y -> y.firstError());
        t.end();
    }

    // promise 16: what the yard has does not matter
    private static void firstErrorKnowsNoState() {
        Twins t = new Twins("16: no sets").write("m23>5;b23;h5*24").due("no error", 15, y -> y.firstError());
        t.due("none is carried out", 0, y -> y.run());
        t.end();
    }

    // promise 17: "if the buffer is not a complete row of orders": each order, and each beginning that is none
    private static void runCompleteRowsAlone() {
        for (String beginning : BEGINNINGS) {
            ScaffoldYard y = written(beginning);
            ScaffoldYard second = written("d2;" + beginning);
            if (ORDERS.contains(beginning)) {
                Check.same("17: " + beginning, beginning.charAt(0) == 'd' ? 1 : 0, y.run());
                Check.same("17: after an order, " + beginning, beginning.charAt(0) == 'd' ? 2 : 1, second.run());
                Check.same("17: cleared", 0, y.clearBuffer() + second.clearBuffer());
            } else {
                Check.fails("17: " + beginning, Twins.ARGUMENT, () -> y.run());
                Check.fails("17: after an order, " + beginning, Twins.ARGUMENT, () -> second.run());
                Check.same("17: nothing is carried out", 0, y.count(9) + second.count(9) + second.count(3));
                Check.same("17: not cleared", 2 * beginning.length() + 3, y.clearBuffer() + second.clearBuffer());
            }
        }
    }

    private static void runWhatIsNotComplete() {
        String[] texts = {"", ";", "d1;", ";d1", "d1;;d1", "d1d1", "d0", "d01", "d100", "b24", "b00", "m24>0", "m0>6",
            "m0*1", "m0>", "m0>00", "h6*1", "h0*0", "h0*01", "h0*25", "h0>1", "h00*1", "h*1", "m>1", "D1", "d1:d1",
            "d-1", "d+1", "b0;d1;x"};
        Set<String> asked = new HashSet<>();
        for (String text : texts) {
            Twins t = new Twins("17: " + text).after(y -> y.buySets(1)).after(y -> y.hire(0, 1)).write(text);
            t.refuses("not complete", Twins.ARGUMENT, y -> y.run());
            t.due("not cleared", text.length(), y -> y.clearBuffer());
            t.end();
            Check.same("17: each text once", 1, asked.add(text) ? 1 : 0);
        }
    }

    // a buffer of 60 characters
    private static void runFullBuffer() {
        Twins t = new Twins("17: 60").write("d1;".repeat(19) + "d99").due("20", 20, y -> y.run());
        t.due("day", 118, y -> y.count(3)).due("one state", 1, y -> y.count(9)).due("cleared", 0, y -> y.clearBuffer());
        t.write("d1;".repeat(20)).refuses("60 that are not complete", Twins.ARGUMENT, y -> y.run());
        t.due("not cleared", 60, y -> y.clearBuffer()).due("day", 118, y -> y.count(3));
        t.write("d99;".repeat(14) + "d9;d").refuses("60", Twins.ARGUMENT, y -> y.run()).after(y -> y.clearBuffer());
        t.end();
    }

    // promise 17: "up to the first one whose method would throw an exception"
    private static void runStopsAtFirstRefusedOrder() {
        String[] refused = {"b1", "b2", "b23", "m1>0", "m2>0", "m23>5", "m0>3", "h0*2", "h5*24"};
        for (String order : refused) {
            Twins t = new Twins("17: " + order).after(y -> y.buySets(2)).after(y -> y.hire(3, 1));
            t.write(order).due("alone", 0, y -> y.run()).write(order + ";d1").due("first", 0, y -> y.run());
            t.write("d5;" + order + ";d1;d1").due("second", 1, y -> y.run()).due("day", 5, y -> y.count(3));
            t.write("d6;d7;" + order).due("last", 2, y -> y.run()).due("day", 18, y -> y.count(3));
            t.due("cleared", 0, y -> y.clearBuffer()).due("each is saved", 6, y -> y.count(9));
            t.end();
        }
    }

    // promise 17: the last order that is carried out, and the first that is not
    private static void runStopsAtBoundaries() {
        Twins t = new Twins("17: sets").after(y -> y.buySets(24)).write("h0*24;h0*1").due("24", 1, y -> y.run());
        t.write("b23;b23").due("once", 1, y -> y.run()).write("m22>5;m22>5").due("once", 1, y -> y.run());
        t.write("b0;h1*3").due("three of two", 1, y -> y.run()).write("h1*2;h1*1").due("two", 1, y -> y.run());
        t.due("none left", 0, y -> y.count(2)).due("hires", 27, y -> y.count(6));
        t.end();
        Twins days = new Twins("17: days").passTo(9900).write("d99;d1").due("to 9999", 1, y -> y.run());
        days.due("day", 9999, y -> y.count(3)).after(y -> y.undo()).write("d98;d2;d1").due("one", 1, y -> y.run());
        days.due("day", 9998, y -> y.count(3)).write("d1;d1").due("one", 1, y -> y.run());
        days.due("day", 9999, y -> y.count(3));
        days.end();
        Twins damaged = new Twins("17: whole ones").after(y -> y.buySets(2)).after(y -> y.damage(0, 3, 1));
        damaged.write("h0*2").due("not two", 0, y -> y.run()).write("h0*1;b0").due("one", 1, y -> y.run());
        damaged.due("which", 0, y -> y.bundle(1, 0));
        damaged.end();
    }

    // promise 17: "as hire(), moveOn(), bring() and pass() do, one after the other"
    private static void runAsTheMethodsDo() {
        ScaffoldYard y = new ScaffoldYard();
        ScaffoldYard other = new ScaffoldYard();
        y.buySets(24);
        other.buySets(24);
        for (char c : "h5*23;d99;m0>0;m22>4;d13;b22;b0;d10;m10>3;d1;b10".toCharArray()) {
            y.append(c);
        }
        other.hire(5, 23);
        other.pass(99);
        other.moveOn(0, 0);
        other.moveOn(22, 4);
        other.pass(13);
        other.bring(22);
        other.bring(0);
        other.pass(10);
        other.moveOn(10, 3);
        other.pass(1);
        other.bring(10);
        Check.same("17: all are carried out", 11, y.run());
        for (int change = 0; change < 5; change++) {
            y.pass(1);
            other.pass(1);
        }
        Check.same("17: as the methods do", other.digest(), y.digest());
        Check.same("17: billed", other.count(4), y.count(4));
    }

    // promise 17: "Undoable, as one call, also if none is carried out."
    private static void runIsSavedOnce() {
        Twins t = new Twins("17: one call").after(y -> y.buySets(2)).write("h0*2;d20;b0;b1").due("4", 4, y -> y.run());
        t.due("one more", 2, y -> y.count(9)).write("b0").due("none", 0, y -> y.run());
        t.due("one more", 3, y -> y.count(9)).due("undone", 2, y -> y.undo()).due("day", 20, y -> y.count(3));
        t.due("undone", 1, y -> y.undo()).due("day", 0, y -> y.count(3)).due("hires", 0, y -> y.count(6));
        t.due("bills", 0, y -> y.count(4)).due("in the yard", 2, y -> y.count(1));
        t.end();
        Twins full = new Twins("17: the seventh").passTo(99 * 6).write("d1;d1").due("two", 2, y -> y.run());
        full.due("still six", 6, y -> y.count(9)).due("undone", 5, y -> y.undo()).due("day", 594, y -> y.count(3));
        full.end();
    }

    // promise 18: "if there is none"
    private static void undoNone() {
        Twins t = new Twins("18: none").refuses("new", Twins.STATE, y -> y.undo()).after(y -> y.pass(1));
        t.due("one", 0, y -> y.undo()).refuses("dropped", Twins.STATE, y -> y.undo());
        t.refuses("a refused call saves nothing", Twins.ARGUMENT, y -> y.pass(0));
        t.refuses("none", Twins.STATE, y -> y.undo()).after(y -> y.buySpare(0, 1)).due("one", 0, y -> y.undo());
        t.refuses("none", Twins.STATE, y -> y.undo());
        t.end();
    }

    // promise 18: "Restores the latest saved state, and drops it."
    private static void undoSixAndNoMore() {
        for (int changes = 5; changes <= 7; changes++) {
            Twins t = new Twins("18: " + changes).after(y -> y.buySets(1));
            for (int i = 1; i < changes; i++) {
                int spare = i;
                t.due("spare", spare, y -> y.buySpare(2, 1));
            }
            for (int spare = changes - 2; spare >= 0; spare--) {
                int s = spare;
                t.after(y -> y.undo()).due("the one before", s, y -> y.parts(2, 1));
            }
            t.due("sets", 1, y -> y.count(0)).due("left", changes <= 6 ? 1 : 0, y -> y.count(9));
            t.end();
        }
        Twins mixed = new Twins("18: and new ones").passTo(99 * 8).after(y -> y.undo()).after(y -> y.undo());
        mixed.due("four", 4, y -> y.count(9)).passTo(99 * 6 + 3).due("five", 5, y -> y.count(9));
        mixed.after(y -> y.pass(1)).due("six", 6, y -> y.count(9)).after(y -> y.pass(1)).due("six", 6, y -> y.count(9));
        mixed.end();
    }
}
