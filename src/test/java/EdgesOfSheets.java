/** Promises 1 to 5 and 41: a new object, sheets, status. */
final class EdgesOfSheets {
    private static final int BYTES = 0, SHORTS = 1, INTS = 2;
    private final Edges e;

    EdgesOfSheets(Edges edges) {
        e = edges;
    }

    void run() {
        anew();
        sheets();
        sheet();
        set();
        copy();
        drop();
        status();
    }

    private void anew() {
        e.promise(1, "No FLOOR.");
        FireRows x = new FireRows();
        for (int what = 0; what < 10; what++) {
            e.due("count " + what, 0, x.count(what));
        }
        e.due("no drift", Edges.STATE, x.drift(0, 0));
        e.due("no hill comes", Edges.STATE, x.hill(0, 0));
        e.due("no fault", 0, x.fault());
        e.due("no status", 0, x.status());
        e.due("no trace", Edges.NONE, x.trace(0));
        e.due("no image", Edges.STATE, x.restore(0));
        e.due("no other image", Edges.STATE, x.restore(1));
        FireRows y = Edges.rest(3);
        y.ask(0, 0);
        e.due("nothing of another object", Edges.STATE, new FireRows().chance());
        e.due("nothing of a new object in it", 3, y.count(6));
    }

    private void sheets() {
        e.terms("1 SHEETS 0 .. 7 are missing (at first), or have a LANE (0 bytes, 1 shorts, 2 ints) and 0 to 40 ITEMS, 0 at first.");
        FireRows x = Edges.rest(0);
        for (int sheet = 0; sheet < 8; sheet++) {
            e.due("sheet " + sheet + " is missing", Edges.NULL, x.set(sheet, 0, 0));
            e.due("sheet " + sheet + " with none", 0, x.sheet(sheet, sheet % 3, 0));
            e.due("sheet " + sheet + " has no place 0", Edges.PLACE, x.set(sheet, 0, 0));
            e.due("sheet " + sheet + " with all", 40, x.sheet(sheet, sheet % 3, 40));
            e.due("sheet " + sheet + " has place 39", 1, x.set(sheet, 39, 1));
            e.due("sheet " + sheet + " has no place 40", Edges.PLACE, x.set(sheet, 40, 1));
            e.due("how many sheets", sheet + 1, x.count(0));
        }
        e.due("no sheet 8", Edges.BAD, x.sheet(8, 0, 1));
        e.items(x, "of a new sheet", 5, 0, 0, 0, 0, 0, 0);
        x.sheet(6, BYTES, 1);
        e.due("bytes have 8 bits", 0, x.set(6, 0, 256));
        x.sheet(6, SHORTS, 1);
        e.due("shorts have more", 256, x.set(6, 0, 256));
        e.due("shorts have 16 bits", 0, x.set(6, 0, 65536));
        x.sheet(6, INTS, 1);
        e.due("ints have more", 65536, x.set(6, 0, 65536));
    }

    private void sheet() {
        e.promise(2, "A SHEET of a LANE with n ITEMS, in place of what is there: n.");
        FireRows x = Edges.rest(0);
        Checks.fill(x, 0, 1, 2, 3, 4);
        e.due("as many once more", 4, x.sheet(0, INTS, 4));
        e.items(x, "0 again", 0, 0, 0, 0, 0);
        Checks.fill(x, 0, 1, 2, 3, 4);
        e.due("more than were there", 6, x.sheet(0, BYTES, 6));
        e.items(x, "all are 0", 0, 0, 0, 0, 0, 0, 0);
        e.due("its lane is new", -1, x.set(0, 5, 255));
        e.due("none", 0, x.sheet(0, SHORTS, 0));
        e.due("it is there with none", 0, x.drop(0));
        e.promise(2, "BAD: SHEET, LANE, n above 40; SIZE.");
        e.due("first sheet", 1, x.sheet(0, BYTES, 1));
        e.due("last sheet", 1, x.sheet(7, BYTES, 1));
        e.due("beyond the last sheet", Edges.BAD, x.sheet(8, BYTES, 1));
        e.due("most", Edges.BAD, x.sheet(Edges.MOST, BYTES, 1));
        e.due("beyond the last lane", Edges.BAD, x.sheet(0, 3, 1));
        e.due("lane below", Edges.BAD, x.sheet(0, -1, 1));
        e.due("40 items", 40, x.sheet(1, INTS, 40));
        e.due("41 items", Edges.BAD, x.sheet(1, INTS, 41));
        e.due("most items", Edges.BAD, x.sheet(1, INTS, Edges.MOST));
        e.due("the 40 stay", 9, x.set(1, 39, 9));
        e.due("-1 items", Edges.SIZE, x.sheet(1, INTS, -1));
        e.due("least items", Edges.SIZE, x.sheet(1, INTS, Edges.LEAST));
        e.due("the 40 stay once more", 8, x.set(1, 39, 8));
        e.due("BAD ahead of SIZE, sheet", Edges.BAD, x.sheet(8, INTS, -1));
        e.due("BAD ahead of SIZE, lane", Edges.BAD, x.sheet(1, 3, -1));
    }

    private void set() {
        e.promise(3, "ITEM i becomes v, its lowest bits, as many as the LANE has: what it is then.");
        FireRows x = new FireRows();
        int[] given = {127, 128, 255, 256, -128, -129, 32767, 32768, 65535, 65536, -32768, -32769, Edges.MOST, Edges.LEAST};
        int[] asByte = {127, -128, -1, 0, -128, 127, -1, 0, -1, 0, 0, -1, -1, 0};
        int[] asShort = {127, 128, 255, 256, -128, -129, 32767, -32768, -1, 0, -32768, 32767, -1, 0};
        x.sheet(0, BYTES, 1);
        x.sheet(1, SHORTS, 1);
        x.sheet(2, INTS, 1);
        for (int i = 0; i < given.length; i++) {
            e.due(given[i] + " as a byte", asByte[i], x.set(0, 0, given[i]));
            e.due(given[i] + " as a short", asShort[i], x.set(1, 0, given[i]));
            e.due(given[i] + " as an int", given[i], x.set(2, 0, given[i]));
        }
        FireRows y = Edges.rest(0);
        y.sheet(0, BYTES, 4);
        y.set(0, 1, 300);
        y.set(0, 2, 200);
        e.items(y, "that one alone", 0, 0, 44, -56, 0);
        e.promise(3, "BAD: SHEET; NULL; PLACE.");
        e.due("no sheet", Edges.BAD, x.set(8, 0, 0));
        e.due("BAD ahead of PLACE", Edges.BAD, x.set(8, -1, 0));
        e.due("missing", Edges.NULL, x.set(3, 0, 0));
        e.due("NULL ahead of PLACE", Edges.NULL, x.set(3, -1, 0));
        e.due("place 1 of 1", Edges.PLACE, x.set(0, 1, 0));
        e.due("place -1", Edges.PLACE, x.set(0, -1, 0));
        e.due("most", Edges.PLACE, x.set(0, Edges.MOST, 0));
        e.due("least", Edges.PLACE, x.set(0, Edges.LEAST, 0));
    }

    private void copy() {
        e.promise(4, "n ITEMS of a from i on come to b from j on, as they were ahead: n.");
        FireRows x = Edges.rest(0);
        Checks.fill(x, 0, 1, 2, 3, 4, 5, 6);
        e.due("forward over itself", 5, x.copy(0, 0, 0, 1, 5));
        e.items(x, "forward", 0, 1, 1, 2, 3, 4, 5);
        e.due("backward over itself", 5, x.copy(0, 1, 0, 0, 5));
        e.items(x, "backward", 0, 1, 2, 3, 4, 5, 5);
        e.due("onto itself", 6, x.copy(0, 0, 0, 0, 6));
        e.items(x, "onto itself", 0, 1, 2, 3, 4, 5, 5);
        Checks.fill(x, 1, 9, 9);
        e.due("the last two", 2, x.copy(0, 4, 1, 0, 2));
        e.items(x, "the last two", 1, 5, 5);
        e.due("one to the last place", 1, x.copy(0, 0, 1, 1, 1));
        e.items(x, "one to the last place", 1, 5, 1);
        e.items(x, "a stays as it was", 0, 1, 2, 3, 4, 5, 5);
        e.due("none", 0, x.copy(0, 0, 1, 0, 0));
        e.due("none at both ends", 0, x.copy(0, 6, 1, 2, 0));
        x.sheet(2, INTS, 0);
        e.due("none of none", 0, x.copy(2, 0, 2, 0, 0));
        x.sheet(3, INTS, 40);
        x.sheet(4, INTS, 40);
        e.due("all of 40", 40, x.copy(3, 0, 4, 0, 40));
        e.promise(4, "BAD: SHEETS; NULL; STORE; PLACE (i, j, n below 0, or beyond an end).");
        x.sheet(5, BYTES, 6);
        x.sheet(6, SHORTS, 6);
        e.due("no sheet a", Edges.BAD, x.copy(8, 0, 0, 0, 1));
        e.due("no sheet b", Edges.BAD, x.copy(0, 0, 8, 0, 1));
        e.due("BAD ahead of NULL", Edges.BAD, x.copy(7, 0, 8, 0, 1));
        e.due("a is missing", Edges.NULL, x.copy(7, 0, 0, 0, 1));
        e.due("b is missing", Edges.NULL, x.copy(0, 0, 7, 0, 1));
        e.due("both are missing", Edges.NULL, x.copy(7, 0, 7, 0, 0));
        e.due("NULL ahead of PLACE", Edges.NULL, x.copy(7, -1, 0, -1, -1));
        e.due("ints to bytes", Edges.STORE, x.copy(0, 0, 5, 0, 1));
        e.due("bytes to shorts", Edges.STORE, x.copy(5, 0, 6, 0, 1));
        e.due("none of two lanes", Edges.STORE, x.copy(6, 0, 0, 0, 0));
        e.due("STORE ahead of PLACE", Edges.STORE, x.copy(0, 99, 5, -1, -1));
        int[][] beyond = {{-1, 0, 1}, {0, -1, 1}, {0, 0, -1}, {5, 0, 2}, {0, 1, 2}, {6, 0, 1}, {0, 2, 1}, {7, 0, 0}, {0, 3, 0},
            {Edges.MOST, 0, 1}, {0, Edges.MOST, 1}, {0, 0, Edges.MOST}, {Edges.MOST, Edges.MOST, Edges.MOST},
            {1, 0, Edges.LEAST}, {Edges.LEAST, 0, Edges.MOST}, {Edges.LEAST, Edges.LEAST, Edges.LEAST}};
        for (int[] p : beyond) {
            e.due(p[0] + ", " + p[1] + ", " + p[2], Edges.PLACE, x.copy(0, p[0], 1, p[1], p[2]));
        }
        e.items(x, "nothing came", 1, 5, 1);
    }

    private void drop() {
        e.promise(5, "A SHEET is missing from now on: how many ITEMS it had.");
        FireRows x = new FireRows();
        x.sheet(0, BYTES, 0);
        x.sheet(7, INTS, 40);
        e.due("none", 0, x.drop(0));
        e.due("all", 40, x.drop(7));
        e.due("it is missing", Edges.NULL, x.set(7, 0, 0));
        e.due("no sheet is left", 0, x.count(0));
        e.due("it may come again", 2, x.sheet(7, BYTES, 2));
        e.due("with as many as then", 2, x.drop(7));
        e.promise(5, "BAD; NULL.");
        e.due("no sheet", Edges.BAD, x.drop(8));
        e.due("no sheet below", Edges.BAD, x.drop(-1));
        e.due("missing at first", Edges.NULL, x.drop(1));
        e.due("missing since it was dropped", Edges.NULL, x.drop(7));
    }

    private void status() {
        e.promise(41, "Of the latest call with a SHEET, or as(), that was not BAD, STATE, FULL: the number of its FINDING;");
        FireRows x = new FireRows();
        x.drop(0);
        e.statusIs(x, "drop", 1);
        x.hills(0, 0, 1);
        x.even(0, 0, 2);
        x.bend(0, 0, 3);
        x.people(0, 0, 1);
        x.against(0, 0, 2);
        e.statusIs(x, "STATE leaves it", 1);
        x.sheet(0, INTS, -1);
        e.statusIs(x, "sheet", 4);
        x.sheet(0, INTS, 41);
        x.set(8, 0, 0);
        x.copy(8, 0, 0, 0, 0);
        x.drop(8);
        x.hills(8, 0, 1);
        x.even(8, 0, 2);
        x.as(0, 0);
        e.statusIs(x, "BAD leaves it", 4);
        FireRows y = Edges.rest(12);
        Checks.fill(y, 0, 0, 1, 2, 12);
        y.sheet(1, BYTES, 4);
        y.copy(0, 0, 1, 0, 1);
        e.statusIs(y, "copy", 5);
        y.hills(0, 0, 1);
        e.statusIs(y, "FULL leaves it", 5);
        y.people(0, 3, 1);
        e.statusIs(y, "an item that is BAD leaves it", 5);
        y.hills(0, 3, 1);
        e.statusIs(y, "hills", 2);
        y.even(2, 0, 2);
        e.statusIs(y, "even", 1);
        y.bend(0, 2, 3);
        e.statusIs(y, "bend", 2);
        y.people(2, 0, 1);
        e.statusIs(y, "people", 1);
        y.against(0, 3, 2);
        e.statusIs(y, "against", 2);
        y.as(0, 1);
        e.statusIs(y, "as", 3);
        y.set(0, 4, 0);
        e.statusIs(y, "set", 2);
        statusOfNone(y);
    }

    private void statusOfNone(FireRows y) {
        e.promise(41, "0: it had none, or there was none.");
        e.statusIs(new FireRows(), "there was none", 0);
        for (int call = 0; call < 10; call++) {
            y.drop(7);
            e.statusIs(y, "ahead of call " + call, 1);
            switch (call) {
                case 0 -> y.sheet(2, BYTES, 1);
                case 1 -> y.set(2, 0, 1);
                case 2 -> y.copy(2, 0, 2, 0, 0);
                case 3 -> y.drop(2);
                case 4 -> y.even(0, 0, 2);
                case 5 -> y.bend(0, 0, 3);
                case 6 -> y.people(0, 0, 3);
                case 7 -> y.against(0, 0, 3);
                case 8 -> y.as(0, 0);
                default -> {
                    Checks.read(y, Edges.REST);
                    e.statusIs(y, "floor() leaves it", 1);
                    y.hills(0, 0, 1);
                }
            }
            e.statusIs(y, "behind call " + call, 0);
        }
        y.drop(7);
        y.count(0);
        y.told(0, 0);
        y.ask(0, 0);
        y.kind(0);
        y.fits(0);
        y.image(0);
        y.restore(0);
        y.orders();
        e.statusIs(y, "calls without a sheet leave it", 1);
    }
}
