import java.util.ArrayList;
import java.util.LinkedHashMap;
import java.util.List;
import java.util.Map;
import java.util.function.ToIntFunction;

/** The terms that hold for every call: numbers below 0, fractions, refusals and their order. */
final class EdgesOfRefusals {
    private static final String ALL = "floor 10 -5 3;floor 30 -1 6;fire 100 50 0 1 4 6;fire -200 0 1 0 7 9;"
        + "house 0 1;house 3 2;house -2 0;crack 100 50 -5 3 4;"
        + "story stays 5;story wanders 3;story crack 2;story late 1;";
    private static final int TAPE = 495;
    private final Edges e;

    EdgesOfRefusals(Edges edges) {
        e = edges;
    }

    void run() {
        numbers();
        fractions();
        order();
        findings();
        nothingChanges();
        lastCall();
    }

    /** Eleven hills (3 has all its dates), sheets, both images, a trace, a fault, a tape that is nearly full. */
    private static FireRows built() {
        FireRows x = Checks.world(ALL);
        x.hill(7, 8);
        x.image(1);
        x.made(0, 0, 6);
        x.made(1, 1, 3);
        x.hill(-99999, 99999);
        for (int v = 10; v < 50; v += 10) {
            x.date(3, 0, v);
        }
        x.date(1, 1, 6);
        x.date(1, 2, 1);
        x.needle(0, 5, 6);
        x.needle(1, -7, 8);
        x.image(0);
        x.date(2, 0, 9);
        Checks.fill(x, 0, 5, 6, 0, 1, 2, 99999);
        x.sheet(1, 0, 40);
        x.set(1, 0, 77);
        x.sheet(2, 1, 3);
        x.sheet(3, 2, 0);
        Checks.fill(x, 4, 0, 0, 11, -1, 100000, 0);
        Checks.read(x, "floor 0");
        x.ask(3, 0);
        Checks.feed(x, "floor 9 1 0;fire 0 0 0 0 1 0;story stays 1;");
        while (x.count(9) < TAPE) {
            x.feed(' ', 1);
        }
        x.copy(0, 6, 0, 6, 1);
        return x;
    }

    private void numbers() {
        e.terms("Numbers go from 0 on, but places, paces, leans.");
        for (int v : new int[] {-1, Edges.LEAST}) {
            FireRows x = built();
            int[] sheets = {x.sheet(v, 0, 0), x.sheet(0, v, 0), x.set(v, 0, 0), x.copy(v, 0, 0, 0, 0), x.copy(0, 0, v, 0, 0),
                x.drop(v), x.feed(0, v), x.hills(v, 0, 1), x.hills(0, 0, v), x.even(v, 0, 2), x.even(0, 0, v),
                x.bend(v, 0, 3), x.bend(0, 0, v), x.people(v, 0, 1), x.people(0, 0, v), x.against(v, 0, 2), x.against(0, 0, v)};
            allBad("a sheet call with " + v, sheets);
            int[] hills = {x.drift(v, 0), x.drift(0, v), x.where(v, 0, 0, 0), x.where(0, v, 0, 0), x.where(0, 0, v, 0),
                x.where(0, 0, 0, v), x.date(v, 0, 0), x.date(0, v, 0), x.date(0, 0, v), x.needle(v, 0, 0), x.needle(0, 0, v),
                x.told(v, 0), x.told(0, v), x.pace(v, 0, 0), x.pace(0, v, 0), x.pace(0, 1, v), x.turn(v),
                x.wandered(v, 0, 0), x.wandered(0, v, 0), x.wandered(0, 1, v), x.leans(v, 0, 0), x.leans(0, v, 0), x.leans(0, 1, v)};
            allBad("a hill call with " + v, hills);
            int[] stories = {x.nearest(v, 0, 0), x.nearest(0, v, 0), x.nearest(0, 0, v), x.fits(v), x.odds(v, 0), x.odds(0, v),
                x.belong(v, 0), x.belong(0, v), x.made(v, 0, 1), x.made(0, v, 1), x.made(0, 0, v), x.says(v), x.next(v, 0),
                x.next(0, v), x.image(v), x.restore(v), x.kind(v), x.as(v, 0), x.as(0, v), x.ask(v, 0), x.ask(0, v), x.count(v)};
            allBad("a story call with " + v, stories);
            int[] places = {x.set(0, v, 0), x.copy(0, v, 0, 0, 0), x.copy(0, 0, 0, v, 0), x.copy(0, 0, 0, 0, v), x.hills(0, v, 1),
                x.even(0, v, 2), x.bend(0, v, 3), x.people(0, v, 1), x.against(0, v, 2)};
            for (int i = 0; i < places.length; i++) {
                e.due("place " + v + " of call " + i, Edges.PLACE, places[i]);
            }
            e.due("fewer items than none, " + v, Edges.SIZE, x.sheet(0, 0, v));
            e.due("no number " + v + " of the trace", Edges.NONE, x.trace(v));
        }
        FireRows x = Edges.rest(0);
        e.due("a place may be below 0", 0, x.hill(-1, -2));
        e.due("and is told so", -1, x.told(0, 0));
        x.hill(0, 0);
        x.needle(0, -5, 1);
        x.needle(1, 0, 1);
        e.due("farther south", -7, x.wandered(0, 1, 0));
        x.date(0, 0, 3);
        x.date(0, 1, 9);
        e.due("it leans less", -11, x.leans(0, 1, 0));
    }

    private void allBad(String of, int[] answers) {
        for (int i = 0; i < answers.length; i++) {
            e.due(of + ", answer " + i, Edges.BAD, answers[i]);
        }
    }

    private void fractions() {
        e.terms("All that is divided is cut towards 0, but fractions, told as two numbers in lowest terms, the lower one above 0 "
            + "(0 is 0 by 1).");
        FireRows x = Checks.world("floor 1 0 0;fire 0 0 0 0 10 5;house 0 0;house 0 1;house 9 10;" + Edges.STORY);
        x.hill(0, 0);
        x.hill(0, 0);
        x.hill(12, -9);
        x.date(0, 0, 0);
        x.date(1, 0, 7);
        x.date(2, 0, 14);
        e.due("0 by 7 is 0", 0, x.pace(1, 0, 0));
        e.due("by 1", 1, x.pace(1, 0, 1));
        e.due("most, too, is 0", 0, x.pace(1, 0, 2));
        e.due("by 1, too", 1, x.pace(1, 0, 3));
        e.due("21 by 14 is 3", 3, x.pace(2, 0, 0));
        e.due("by 2", 2, x.pace(2, 0, 1));
        e.due("21 by 7 is 3", 3, x.pace(2, 1, 0));
        e.due("by 1 again", 1, x.pace(2, 1, 1));
        e.due("all odds are 1", 1, x.odds(0, 0));
        e.due("by 1 of all", 1, x.odds(0, 1));
        FireRows y = Checks.world("floor 1 0 0;fire 0 0 0 0 10 5;house 9 10;" + Edges.STORY);
        y.hill(-19, 0);
        y.date(0, 0, 10);
        y.hill(-20, 0);
        e.due("ends 0 to 11", 11, y.told(0, 4));
        e.due("their midst is 5", -4, y.turn(0));
        e.due("so it is off by 1", 1, y.turn(2));
    }

    private void order() {
        e.terms("Refusals are answers, the first of these that fits, but as told: BAD (a number is not as told; there is no such "
            + "thing), STATE (as told), FULL (as told), then FINDINGS, of several the first in time:");
        FireRows x = new FireRows();
        int[] bad = {x.drift(100, 0), x.drift(0, 2), x.hill(100000, 0), x.hill(0, -100000), x.hills(8, 0, 1), x.hills(0, 0, 13),
            x.even(8, 0, 2), x.even(0, 0, 1), x.bend(0, 0, 2), x.people(0, 0, 0), x.against(0, 0, 1), x.turn(3), x.image(2),
            x.restore(2)};
        allBad("ahead of STATE", bad);
        int[] none = {x.where(0, 0, 0, 0), x.date(0, 0, 0), x.needle(0, 0, 0), x.told(0, 0), x.nearest(0, 0, 0), x.fits(0),
            x.odds(0, 0), x.belong(0, 0), x.made(0, 0, 1), x.pace(0, 1, 0), x.says(0), x.wandered(0, 1, 0), x.leans(0, 1, 0),
            x.next(0, 0), x.kind(0), x.as(0, 0), x.ask(0, 0)};
        allBad("there is no such thing yet", none);
        int[] state = {x.drift(99, 1), x.hill(0, 0), x.hills(0, -1, 12), x.even(0, -1, 2), x.bend(0, 0, 12), x.people(0, 0, 1),
            x.against(0, 99, 2), x.turn(2), x.orders(), x.chance(), x.bore(), x.image(1), x.restore(0)};
        for (int i = 0; i < state.length; i++) {
            e.due("STATE, answer " + i, Edges.STATE, state[i]);
        }
        FireRows y = built();
        e.due("BAD ahead of FULL, feed", Edges.BAD, y.feed(0, 9));
        e.due("FULL, feed", Edges.FULL, y.feed(0, 6));
        e.due("BAD ahead of FULL, date", Edges.BAD, y.date(3, 3, 0));
        e.due("FULL, date", Edges.FULL, y.date(3, 2, 0));
        e.due("BAD ahead of FULL, made", Edges.BAD, y.made(2, 1, 6));
        e.due("FULL, made", Edges.FULL, y.made(2, 0, 2));
        e.due("as told, a finding ahead of FULL", Edges.NULL, y.hills(7, 0, 12));
        e.due("as told, a finding ahead of an item that is BAD", Edges.PLACE, y.hills(4, 3, 2));
        e.due("as told, an item that is BAD ahead of FULL", Edges.BAD, y.hills(4, 2, 2));
        e.due("FULL, hills", Edges.FULL, y.hills(0, 0, 3));
        e.due("NULL is the first in time", Edges.NULL, y.copy(0, -1, 7, 0, -1));
        e.due("then STORE", Edges.STORE, y.copy(0, -1, 2, 0, -1));
        e.due("then PLACE", Edges.PLACE, y.copy(0, -1, 4, 0, -1));
    }

    private void findings() {
        e.terms("-1000010 less 1 NULL (a SHEET that is missing), 2 PLACE (no such place of a SHEET), 3 KIND (a HILL that is not "
            + "that), 4 SIZE (fewer than none), 5 STORE (SHEETS of two LANES).");
        FireRows x = built();
        e.due("NULL", -1000011, x.set(7, 0, 0));
        e.statusIs(x, "NULL", 1);
        e.due("PLACE", -1000012, x.set(0, 6, 0));
        e.statusIs(x, "PLACE", 2);
        e.due("KIND", -1000013, x.as(0, 1));
        e.statusIs(x, "KIND", 3);
        e.due("SIZE", -1000014, x.sheet(0, 0, -1));
        e.statusIs(x, "SIZE", 4);
        e.due("STORE", -1000015, x.copy(0, 0, 1, 0, 1));
        e.statusIs(x, "STORE", 5);
    }

    private void nothingChanges() {
        e.terms("What is refused, or found, changes nothing but status().");
        List<Integer> before = deepLook(built());
        for (Map.Entry<String, ToIntFunction<FireRows>> call : refused().entrySet()) {
            FireRows x = built();
            int answer = call.getValue().applyAsInt(x);
            boolean found = answer <= -1000011 && answer >= -1000015;
            boolean plain = answer == Edges.BAD || answer == Edges.STATE || answer == Edges.FULL;
            e.due(call.getKey() + " is refused", 1, found || plain ? 1 : 0);
            e.statusIs(x, call.getKey(), found ? -1000010 - answer : 2);
            List<Integer> after = deepLook(x);
            int first = 0;
            while (first < before.size() && before.get(first).equals(after.get(first))) {
                first++;
            }
            e.due(call.getKey() + " changes answer", before.size(), first);
        }
    }

    private static Map<String, ToIntFunction<FireRows>> refused() {
        Map<String, ToIntFunction<FireRows>> all = new LinkedHashMap<>();
        all.put("sheet, too many", x -> x.sheet(0, 0, 41));
        all.put("sheet, no lane", x -> x.sheet(0, 3, 1));
        all.put("sheet, fewer than none", x -> x.sheet(0, 0, -1));
        all.put("set, missing", x -> x.set(7, 0, 1));
        all.put("set, beyond", x -> x.set(0, 6, 1));
        all.put("copy, beyond a", x -> x.copy(0, 1, 4, 0, 6));
        all.put("copy, beyond b", x -> x.copy(4, 0, 0, 1, 6));
        all.put("copy, two lanes", x -> x.copy(0, 0, 1, 0, 1));
        all.put("copy, missing", x -> x.copy(7, 0, 1, 0, 1));
        all.put("drop, none", x -> x.drop(8));
        all.put("drop, missing", x -> x.drop(7));
        all.put("feed, too many", x -> x.feed(0x6161616161616161L, 6));
        all.put("feed, none", x -> x.feed(0x61, 0));
        all.put("hill, beyond", x -> x.hill(5, 100000));
        all.put("hills, an item", x -> x.hills(4, 3, 1));
        all.put("hills, a later item", x -> x.hills(4, 0, 3));
        all.put("hills, no room for all", x -> x.hills(0, 0, 2));
        all.put("hills, missing", x -> x.hills(7, 0, 1));
        all.put("hills, beyond", x -> x.hills(0, 5, 1));
        all.put("date, no room", x -> x.date(3, 0, 1));
        all.put("date, no age", x -> x.date(0, 0, 100));
        all.put("date, no house", x -> x.date(0, 3, 1));
        all.put("needle, too wide", x -> x.needle(0, 1, 1000));
        all.put("needle, too far", x -> x.needle(0, 100000, 1));
        all.put("made, no room for all", x -> x.made(0, 0, 2));
        all.put("made, too many", x -> x.made(0, 0, 7));
        all.put("even, one twice", x -> x.even(4, 0, 2));
        all.put("bend, no hill", x -> x.bend(4, 1, 3));
        all.put("people, beyond", x -> x.people(0, 5, 2));
        all.put("against, missing", x -> x.against(7, 0, 2));
        all.put("image, none", x -> x.image(2));
        all.put("restore, none", x -> x.restore(2));
        all.put("as, not that", x -> x.as(0, 3));
        all.put("as, no kind", x -> x.as(0, 6));
        all.put("ask, no hill", x -> x.ask(11, 0));
        all.put("ask, no such ask", x -> x.ask(0, 2));
        return all;
    }

    /** All that can be seen of an object, which is used up by it. */
    private static List<Integer> deepLook(FireRows x) {
        List<Integer> seen = new ArrayList<>();
        seen.add(x.fault());
        for (int i = 0; i < 17; i++) {
            seen.add(x.trace(i));
        }
        look(x, seen);
        x.restore(0);
        look(x, seen);
        x.restore(1);
        look(x, seen);
        seen.add(x.floor());
        seen.add(x.count(2));
        for (int sheet = 0; sheet < 8; sheet++) {
            for (int i = 0; i < 40; i += 2) {
                Checks.read(x, Edges.REST);
                seen.add(x.hills(sheet, i, 1));
                seen.add(x.told(0, 0));
                seen.add(x.told(0, 1));
            }
            seen.add(x.set(sheet, 0, -70000));
            seen.add(x.drop(sheet));
        }
        return seen;
    }

    private static void look(FireRows x, List<Integer> seen) {
        for (int what = 0; what < 10; what++) {
            seen.add(x.count(what));
        }
        for (int hill = 0; hill < 12; hill++) {
            for (int what = 0; what < 7; what++) {
                seen.add(x.told(hill, what));
            }
            for (int story = 0; story < 4; story++) {
                seen.add(x.nearest(hill, story, 1));
                seen.add(x.nearest(hill, story, 2));
            }
        }
        for (int what = 0; what < 2; what++) {
            seen.add(x.drift(99, what));
            seen.add(x.where(1, 1, 50, what));
            seen.add(x.wandered(0, 1, what));
            seen.add(x.leans(1, 2, what));
            seen.add(x.odds(1, what));
        }
    }

    private void lastCall() {
        e.quote("What it is", "An object is used for at most 512 calls after it has been made;");
        FireRows x = Edges.rest(0);
        for (int h = 0; h < 12; h++) {
            x.hill(99999 - h, h - 99999);
            x.date(h, 1, 99 - h);
        }
        int feeds = (Edges.REST.length() + 7) / 8;
        int first = x.turn(2);
        for (int call = feeds + 1 + 24 + 1; call < 511; call++) {
            x.turn(call % 3);
        }
        e.due("the 512th call answers as the first one", first, x.turn(2));
    }
}
