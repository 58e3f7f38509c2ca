/** Promises 21 to 26, 30 and 31: paces, rows, the turn of the floor, orders, lines by chance. */
final class EdgesOfRows {
    private static final int EVEN = 0, BEND = 1, PEOPLE = 2, AGAINST = 3;
    private final Edges e;

    EdgesOfRows(Edges edges) {
        e = edges;
    }

    void run() {
        rows();
        pace();
        even();
        bend();
        older();
        people();
        against();
        orders();
        chance();
        turn();
    }

    /** Hills in a line, a unit apart, each with one sharp date; sheet 0 has them in their order. */
    private static FireRows line(int... ages) {
        FireRows x = Edges.rest(0);
        x.sheet(0, 2, ages.length);
        for (int h = 0; h < ages.length; h++) {
            x.hill(h, 0);
            x.date(h, 0, ages[h]);
            x.set(0, h, h);
        }
        return x;
    }

    private static int row(FireRows x, int call, int sheet, int i, int n) {
        switch (call) {
            case EVEN:
                return x.even(sheet, i, n);
            case BEND:
                return x.bend(sheet, i, n);
            case PEOPLE:
                return x.people(sheet, i, n);
            default:
                return x.against(sheet, i, n);
        }
    }

    private void refusals(int call, int least) {
        FireRows x = Edges.rest(12);
        x.sheet(0, 0, 40);
        for (int i = 0; i < 40; i++) {
            x.set(0, i, i < 28 ? i % 12 : i - 28);
        }
        int fine = call == EVEN ? 1 : call == AGAINST ? 0 : Edges.NONE;
        e.due("the fewest", fine, row(x, call, 0, 0, least));
        e.due("one fewer", Edges.BAD, row(x, call, 0, 0, least - 1));
        e.due("all twelve", fine, row(x, call, 0, 0, 12));
        e.due("thirteen", Edges.BAD, row(x, call, 0, 0, 13));
        e.due("twelve to the end", fine, row(x, call, 0, 28, 12));
        e.due("one beyond the end", Edges.PLACE, row(x, call, 0, 29, 12));
        e.due("the fewest to the end", fine, row(x, call, 0, 40 - least, least));
        e.due("the fewest beyond the end", Edges.PLACE, row(x, call, 0, 41 - least, least));
        e.due("from -1", Edges.PLACE, row(x, call, 0, -1, 12));
        e.due("from the most", Edges.PLACE, row(x, call, 0, Edges.MOST, 12));
        e.due("from the least", Edges.PLACE, row(x, call, 0, Edges.LEAST, 12));
        e.due("missing", Edges.NULL, row(x, call, 1, 0, 12));
        e.due("missing, from -1", Edges.NULL, row(x, call, 1, -1, 12));
        e.due("no sheet", Edges.BAD, row(x, call, 8, 0, 12));
        e.due("no sheet below", Edges.BAD, row(x, call, -1, 0, 12));
        e.due("n ahead of a missing sheet", Edges.BAD, row(x, call, 1, 0, 13));
        for (int v : new int[] {12, -1, 127, -128}) {
            x.set(0, 11, v);
            e.due("item " + v, Edges.BAD, row(x, call, 0, 0, 12));
            e.due("item " + v + " is not looked at", fine, row(x, call, 0, 0, 11));
            e.due("PLACE ahead of item " + v, Edges.PLACE, row(x, call, 0, 30, 11));
        }
        e.statusIs(x, "a place ahead of items", 2);
        x.set(0, 11, 0);
        x.set(0, 40, 0);
        e.due("the last one twice", Edges.BAD, row(x, call, 0, 0, 12));
        e.statusIs(x, "one twice leaves it", 2);
        FireRows none = new FireRows();
        e.due("no floor, no hills", Edges.STATE, row(none, call, 0, -1, 12));
        e.due("BAD ahead of STATE", Edges.BAD, row(none, call, 0, 0, 13));
        Checks.read(none, Edges.REST);
        e.due("a floor, no hills", Edges.STATE, row(none, call, 0, 0, 12));
        none.hill(0, 0);
        none.sheet(0, 2, 12);
        e.due("one hill, twelve of it", Edges.BAD, row(none, call, 0, 0, 12));
    }

    private void rows() {
        e.terms("3 A ROW: HILLS in an order.");
        FireRows x = line(30, 20, 10);
        Checks.fill(x, 1, 2, 1, 0);
        e.due("in one order", Edges.NONE, x.people(0, 0, 3));
        e.due("in the other", 1, x.people(1, 0, 3));
    }

    private void pace(FireRows x, String of, int a, int b, int... want) {
        for (int what = 0; what < 4; what++) {
            e.due(of + ", what " + what, want[what], x.pace(a, b, what));
        }
    }

    private void pace() {
        e.terms("PACE of two HILLS: how far they are apart (in x and y, added) by how much one's AGE is above the other's, the first one "
            + "older: least: by the greatest difference that ENDS let; most: by the least; NONE, where that is 0 or less (both numbers).");
        FireRows x = Edges.rest(0);
        x.hill(99999, 99999);
        x.hill(-99999, -99999);
        pace(x, "no dates, by 99 and -99", 0, 1, 44444, 11, Edges.NONE, Edges.NONE);
        x.date(0, 1, 50);
        x.date(1, 1, 60);
        pace(x, "by 0 and -20", 0, 1, Edges.NONE, Edges.NONE, Edges.NONE, Edges.NONE);
        pace(x, "by 20 and 0", 1, 0, 99999, 5, Edges.NONE, Edges.NONE);
        x.hill(1, 0);
        x.hill(0, 0);
        x.date(2, 1, 50);
        x.date(3, 1, 59);
        pace(x, "by 1 and -19", 2, 3, 1, 1, Edges.NONE, Edges.NONE);
        x.hill(0, 1);
        x.date(4, 1, 61);
        pace(x, "by 21 and 1", 4, 2, 2, 21, 2, 1);
        x.hill(0, 0);
        x.date(5, 0, 0);
        x.hill(0, 0);
        x.date(6, 0, 99);
        pace(x, "no way in 99", 6, 5, 0, 1, 0, 1);
        pace(x, "backward", 5, 6, Edges.NONE, Edges.NONE, Edges.NONE, Edges.NONE);
        x.hill(0, 0);
        x.date(7, 0, 99);
        pace(x, "alike old", 6, 7, Edges.NONE, Edges.NONE, Edges.NONE, Edges.NONE);
        e.promise(21, "PACE of two HILLS: least: above (what = 0), below (1), most: above (2), below (3); NONE.");
        FireRows y = Checks.world("floor 1 0 0;" + Edges.FIRE + "house 0 0;house 0 1;" + Edges.STORY);
        y.hill(0, 0);
        y.hill(-6, 6);
        y.date(0, 1, 10);
        y.date(1, 1, 16);
        pace(y, "12 by 8 and by 4", 1, 0, 3, 2, 3, 1);
        e.promise(21, "BAD (alike, too).");
        e.due("alike", Edges.BAD, y.pace(1, 1, 0));
        e.due("a 2", Edges.BAD, y.pace(2, 0, 0));
        e.due("b 2", Edges.BAD, y.pace(0, 2, 0));
        e.due("what 4", Edges.BAD, y.pace(1, 0, 4));
        e.due("what -1", Edges.BAD, y.pace(1, 0, -1));
        e.due("no floor", Edges.BAD, new FireRows().pace(0, 1, 0));
    }

    private void even() {
        e.terms("EVEN: there are a b and a c (any fractions) so that for each HILL of the ROW b times how far it is from the first one, "
            + "and c, is within its ENDS.");
        e.due("it goes on", 1, line(10, 20, 30).even(0, 0, 3));
        e.due("it goes back", 1, line(30, 20, 10).even(0, 0, 3));
        e.due("it stays", 1, line(5, 5, 5, 5).even(0, 0, 4));
        e.due("from 0 to 99", 1, line(0, 33, 66, 99).even(0, 0, 4));
        e.due("by a fraction less", 0, line(0, 33, 67, 99).even(0, 0, 4));
        FireRows far = Edges.rest(0);
        far.hill(-99999, -99999);
        far.hill(0, -1);
        far.hill(99999, 99999);
        Checks.fill(far, 0, 0, 1, 2);
        far.date(0, 0, 0);
        far.date(2, 0, 99);
        far.date(1, 0, 49);
        e.due("farthest, just off", 0, far.even(0, 0, 3));
        FireRows wide = Edges.rest(0);
        wide.hill(-99999, -99999);
        wide.hill(0, 0);
        wide.hill(99999, 99999);
        Checks.fill(wide, 0, 0, 1, 2);
        wide.date(0, 0, 0);
        wide.date(1, 0, 49);
        wide.date(2, 0, 98);
        e.due("farthest, just even", 1, wide.even(0, 0, 3));
        spans();
        FireRows same = Edges.rest(0);
        same.hill(3, 0);
        same.hill(0, 3);
        same.hill(0, 0);
        Checks.fill(same, 0, 2, 0, 1);
        same.date(0, 1, 40);
        same.date(1, 1, 50);
        e.due("alike far, their ends meet in one age", 1, same.even(0, 0, 3));
        same.date(1, 1, 51);
        e.due("alike far, their ends meet not", 0, same.even(0, 0, 3));
        FireRows place = Edges.rest(2);
        Checks.fill(place, 0, 0, 1);
        place.date(0, 0, 10);
        place.date(1, 0, 10);
        e.due("one place, one age", 1, place.even(0, 0, 2));
        place.date(1, 0, 11);
        e.due("one place, two ages", 0, place.even(0, 0, 2));
        e.promise(22, "Whether a ROW of n HILLS (2 to 12), ITEMS of a SHEET from i on, is EVEN: 1, 0.");
        e.due("two apart are always", 1, line(99, 0).even(0, 0, 2));
        e.due("twelve", 1, line(0, 9, 18, 27, 36, 45, 54, 63, 72, 81, 90, 99).even(0, 0, 12));
        e.due("twelve, the last one off", 0, line(0, 9, 18, 27, 36, 45, 54, 63, 72, 81, 90, 98).even(0, 0, 12));
        e.due("eleven of them", 1, line(0, 9, 18, 27, 36, 45, 54, 63, 72, 81, 90, 98).even(0, 0, 11));
        e.due("from 1 on", 1, line(50, 9, 18, 27).even(0, 1, 3));
        e.promise(22, "BAD: SHEET, n; STATE: no HILLS; NULL; PLACE; then BAD: an ITEM, one twice.");
        refusals(EVEN, 2);
    }

    /** Three hills in a line, 10 apart, each with a date that has ends 5 to both sides. */
    private static FireRows wideDates(int... ages) {
        FireRows x = Edges.rest(0);
        for (int h = 0; h < ages.length; h++) {
            x.hill(10 * h, 0);
            x.date(h, 1, ages[h]);
        }
        Checks.fill(x, 0, 0, 1, 2);
        return x;
    }

    private void spans() {
        e.due("20, 30, 40 alone go through", 1, wideDates(15, 35, 35).even(0, 0, 3));
        e.due("20, 31, 40 do not", 0, wideDates(15, 36, 35).even(0, 0, 3));
        e.due("30, 20, 10 alone go through", 1, wideDates(35, 15, 15).even(0, 0, 3));
        e.due("30, 19, 10 do not", 0, wideDates(35, 14, 15).even(0, 0, 3));
        FireRows up = line(0, 0);
        up.hill(2, 0);
        up.date(2, 1, 10);
        Checks.fill(up, 0, 0, 1, 2);
        e.due("0, 0, 5 to 15, next to one another", 0, up.even(0, 0, 3));
        FireRows down = line(10, 10);
        down.hill(2, 0);
        down.date(2, 1, 4);
        Checks.fill(down, 0, 0, 1, 2);
        e.due("10, 10, 0 to 9, next to one another", 0, down.even(0, 0, 3));
    }

    private void bend() {
        e.terms("BEND: the least k (1 to how many less 2) so that the ROW up to HILL k, and that from HILL k on, are EVEN each; "
            + "NONE: there is none, or the ROW is EVEN.");
        e.due("three, k is 1", 1, line(0, 10, 5).bend(0, 0, 3));
        e.due("four, k is 2", 2, line(0, 10, 20, 5).bend(0, 0, 4));
        e.due("four, k is 1", 1, line(0, 10, 8, 6).bend(0, 0, 4));
        e.due("the least of two", 1, bendsAtEither().bend(0, 0, 4));
        e.due("twelve, k is 10", 10, line(0, 1, 2, 3, 4, 5, 6, 7, 8, 9, 10, 99).bend(0, 0, 12));
        e.due("twelve, k is 1", 1, line(99, 1, 2, 3, 4, 5, 6, 7, 8, 9, 10, 11).bend(0, 0, 12));
        e.due("twelve, it bends at each", Edges.NONE, line(0, 9, 0, 9, 0, 9, 0, 9, 0, 9, 0, 9).bend(0, 0, 12));
        e.due("it bends twice", Edges.NONE, line(0, 10, 0, 10).bend(0, 0, 4));
        e.due("it is even", Edges.NONE, line(0, 10, 20, 30).bend(0, 0, 4));
        FireRows x = line(0, 10, 20, 15, 10);
        e.due("k within its row", 1, x.bend(0, 1, 4));
        FireRows home = Edges.rest(0);
        int[][] at = {{0, 0}, {10, 0}, {0, 0}};
        int[] ages = {0, 10, 20};
        for (int h = 0; h < 3; h++) {
            home.hill(at[h][0], at[h][1]);
            home.date(h, 0, ages[h]);
        }
        Checks.fill(home, 0, 0, 1, 2);
        e.due("from HILL k on, far is from that", 1, home.bend(0, 0, 3));
        FireRows same = Edges.rest(3);
        Checks.fill(same, 0, 0, 1, 2);
        same.date(0, 0, 1);
        same.date(1, 0, 2);
        same.date(2, 0, 3);
        e.due("one place, three ages", Edges.NONE, same.bend(0, 0, 3));
        e.promise(23, "BEND of a ROW (3 to 12); NONE.");
        e.due("two are too few", Edges.BAD, x.bend(0, 0, 2));
        e.due("three", 1, x.bend(0, 1, 3));
        e.statusIs(x, "one that bends", 0);
        e.promise(23, "As even().");
        refusals(BEND, 3);
    }

    /** Ages 0, 5 to 15, 5 to 15, 0: it may bend at either of the two in the midst. */
    private static FireRows bendsAtEither() {
        FireRows x = Edges.rest(0);
        for (int h = 0; h < 4; h++) {
            boolean midst = h == 1 || h == 2;
            x.hill(h, 0);
            x.date(h, midst ? 1 : 0, midst ? 10 : 0);
        }
        Checks.fill(x, 0, 0, 1, 2, 3);
        return x;
    }

    private void older() {
        e.terms("OLDER surely is a HILL than another one, if its lower end is above the other's upper one.");
        FireRows x = Edges.rest(3);
        Checks.fill(x, 0, 0, 1, 2);
        x.date(0, 1, 40);
        x.date(1, 1, 50);
        e.due("45 is not above 45", 6, x.orders());
        e.due("so the people may be right", Edges.NONE, x.people(0, 0, 2));
        x.date(1, 1, 51);
        e.due("46 is above 45", 3, x.orders());
        e.due("so the people are not", 1, x.people(0, 0, 2));
        e.due("without dates none is", Edges.NONE, x.people(0, 1, 2));
    }

    private void people() {
        e.terms("PEOPLE: a ROW of HILLS said to be the oldest first: the first HILL in it (its place) that is surely older than one ahead "
            + "of it; NONE.");
        e.due("the oldest first", Edges.NONE, line(99, 50, 0).people(0, 0, 3));
        e.due("alike old", Edges.NONE, line(7, 7, 7).people(0, 0, 3));
        e.due("at place 1", 1, line(0, 1, 2).people(0, 0, 3));
        e.due("at the last place", 11, line(90, 80, 70, 60, 50, 40, 30, 20, 10, 5, 0, 1).people(0, 0, 12));
        FireRows x = Edges.rest(3);
        Checks.fill(x, 0, 0, 1, 2);
        x.date(0, 0, 50);
        x.date(2, 0, 51);
        e.due("older than one that is not just ahead", 2, x.people(0, 0, 3));
        e.due("older than the one just ahead alone", 3, line(10, 10, 5, 6).people(0, 0, 4));
        e.promise(24, "PEOPLE's ROW (1 to 12); NONE.");
        e.due("one", Edges.NONE, line(5, 9).people(0, 1, 1));
        e.due("its place is from i on", 1, line(9, 5, 7).people(0, 1, 2));
        e.promise(24, "As even().");
        refusals(PEOPLE, 1);
    }

    private void against() {
        e.terms("AGAINST a crack: how many pairs of HILLS of a ROW are there the first of which (in it) is not surely older, but surely "
            + "younger than the other one.");
        e.due("none", 0, line(99, 50, 0).against(0, 0, 3));
        e.due("alike old", 0, line(7, 7, 7).against(0, 0, 3));
        e.due("all of three", 3, line(0, 1, 2).against(0, 0, 3));
        e.due("all of twelve", 66, line(0, 1, 2, 3, 4, 5, 6, 7, 8, 9, 10, 11).against(0, 0, 12));
        e.due("one", 1, line(9, 5, 7).against(0, 0, 3));
        FireRows x = Edges.rest(2);
        Checks.fill(x, 0, 0, 1);
        x.date(0, 1, 40);
        x.date(1, 1, 50);
        e.due("not surely", 0, x.against(0, 0, 2));
        x.date(1, 0, 46);
        e.due("surely", 1, x.against(0, 0, 2));
        e.promise(25, "AGAINST a crack, a ROW said to be the oldest first (2 to 12).");
        e.due("two", 1, line(5, 9).against(0, 0, 2));
        e.due("from 1 on", 1, line(0, 5, 7).against(0, 1, 2));
        e.promise(25, "As even().");
        refusals(AGAINST, 2);
    }

    private void orders() {
        e.terms("ORDERS: how many rows of all HILLS there are in which none is ahead of one that is surely older.");
        int factorial = 1;
        for (int hills = 1; hills <= 12; hills++) {
            factorial *= hills;
            e.due(hills + " without dates", factorial, Edges.rest(hills).orders());
        }
        e.due("all in one order", 1, line(0, 1, 2, 3, 4, 5, 6, 7, 8, 9, 10, 11).orders());
        e.due("all alike", 479001600, line(3, 3, 3, 3, 3, 3, 3, 3, 3, 3, 3, 3).orders());
        e.due("the last one is the oldest", 39916800, line(3, 3, 3, 3, 3, 3, 3, 3, 3, 3, 3, 99).orders());
        e.due("two and two", 4, line(9, 5, 9, 5).orders());
        e.promise(30, "ORDERS.");
        FireRows x = line(5, 6);
        e.due("two", 1, x.orders());
        x.hill(0, 0);
        e.due("and one that may stand anywhere", 3, x.orders());
        e.promise(30, "STATE: no HILLS.");
        e.due("no floor", Edges.STATE, new FireRows().orders());
        e.due("no hills", Edges.STATE, Edges.rest(0).orders());
        Checks.read(x, Edges.REST);
        e.due("none any more", Edges.STATE, x.orders());
    }

    private void chance() {
        e.terms("CHANCE: how many sets of three HILLS lie on one line (places alike count, too).");
        int[] sets = {0, 0, 0, 1, 4, 10, 20, 35, 56, 84, 120, 165, 220};
        for (int hills = 0; hills <= 12; hills++) {
            e.due(hills + " at one place", sets[hills], Edges.rest(hills).chance());
            FireRows x = Edges.rest(0);
            for (int h = 0; h < hills; h++) {
                x.hill(h, h * h);
            }
            e.due(hills + " on a bow", 0, x.chance());
        }
        int[][] places = {{99999, 99999}, {-99999, -99999}, {0, 0}, {0, 1}, {99999, -99999}, {99999, 0}, {-99999, 99998}};
        int[] lines = {0, 0, 1, 1, 1, 2, 2};
        FireRows y = Edges.rest(0);
        for (int h = 0; h < places.length; h++) {
            y.hill(places[h][0], places[h][1]);
            e.due("with place " + h, lines[h], y.chance());
        }
        e.promise(31, "CHANCE.");
        FireRows two = Edges.rest(0);
        two.hill(5, 5);
        two.hill(5, 5);
        two.hill(-7, 3);
        e.due("two alike lie on a line with any third", 1, two.chance());
        e.promise(31, "STATE: no FLOOR.");
        e.due("no floor", Edges.STATE, new FireRows().chance());
        e.due("no hills", 0, Edges.rest(0).chance());
    }

    private void turns(FireRows x, String of, int... want) {
        for (int what = 0; what < 3; what++) {
            e.due(of + ", what " + what, want[what], x.turn(what));
        }
    }

    private void turn() {
        e.terms("TURN: for one FLOOR that moved always alike: of VX, VY from -20 to 20 those by which all HILLS that have DATES are least "
            + "OFF together: each by its nearest FIRE (that stays; of several the least) at the AGE midst of its ENDS (cut); of several "
            + "the least VX, then VY.");
        int[][] ways = {{20, -20}, {-20, 20}, {21, -21}, {-21, 21}, {0, 0}, {19, 0}};
        for (int[] way : ways) {
            FireRows x = Edges.rest(0);
            x.hill(10 * way[0], 10 * way[1]);
            x.date(0, 0, 10);
            int vx = Math.max(-20, Math.min(20, way[0]));
            int vy = Math.max(-20, Math.min(20, way[1]));
            turns(x, way[0] + " and " + way[1], vx, vy, 10 * (Math.abs(way[0] - vx) + Math.abs(way[1] - vy)));
        }
        FireRows now = Edges.rest(0);
        now.hill(7, 8);
        now.date(0, 0, 0);
        turns(now, "at age 0 all are alike", -20, -20, 15);
        FireRows half = Edges.rest(0);
        half.hill(5, 5);
        half.date(0, 0, 10);
        turns(half, "0 or 1 of each: the least", 0, 0, 10);
        half.hill(99999, 99999);
        turns(half, "one without dates counts not", 0, 0, 10);
        half.date(1, 0, 0);
        turns(half, "one of age 0 is off by all", 0, 0, 10 + 199998);
        FireRows midst = Checks.world("floor 1 0 0;" + Edges.FIRE + "house 0 0;house 9 10;" + Edges.STORY);
        midst.hill(10, -10);
        midst.date(0, 1, 10);
        turns(midst, "0 to 11: the midst is 5", 2, -2, 0);
        FireRows fires = Checks.world("floor 1 9 9;fire 0 0 9 9 1 0;fire 100 0 -9 9 1 0;house 0 0;house 0 1;story late 1;");
        fires.hill(30, 0);
        fires.hill(130, 0);
        fires.date(0, 0, 10);
        fires.date(1, 1, 10);
        turns(fires, "each by its nearest fire, that stays", 3, 0, 0);
        FireRows north = Checks.world("floor 1 0 0;fire 70 -300 0 0 1 0;house 0 0;" + Edges.STORY);
        north.hill(70, -250);
        north.date(0, 0, 10);
        turns(north, "from a fire elsewhere", 0, 5, 0);
        FireRows lone = Checks.world("floor 1 0 0;fire 300 400 0 0 1 0;house 0 0;" + Edges.STORY);
        lone.hill(0, 0);
        lone.date(0, 0, 0);
        turns(lone, "no other fire is nearer", -20, -20, 700);
        FireRows four = Checks.world("floor 1 0 0;fire 300 0 0 0 1 0;fire 200 0 0 0 1 0;fire 100 0 0 0 1 0;fire 1 0 0 0 1 0;house 0 0;"
            + Edges.STORY);
        four.hill(0, 0);
        four.date(0, 0, 0);
        turns(four, "the last of four fires", -20, -20, 1);
        FireRows again = Edges.rest(1);
        again.hill(40, 0);
        again.date(1, 0, 2);
        again.date(1, 1, 20);
        turns(again, "again, by its ends 15 to 25", 2, 0, 0);
        FireRows all = Edges.rest(0);
        for (int h = 0; h < 12; h++) {
            all.hill(99999, -99999);
            all.date(h, 0, 99);
        }
        turns(all, "twelve, farthest", 20, -20, 12 * 2 * (99999 - 1980));
        e.promise(26, "TURN: VX (what = 0), VY (1), by how much all are OFF (2); NONE: no HILL has DATES.");
        turns(Edges.rest(0), "no hills", Edges.NONE, Edges.NONE, Edges.NONE);
        turns(Edges.rest(12), "no dates", Edges.NONE, Edges.NONE, Edges.NONE);
        e.promise(26, "BAD; STATE: no FLOOR.");
        e.due("what 3", Edges.BAD, all.turn(3));
        e.due("what -1", Edges.BAD, all.turn(-1));
        e.due("no floor", Edges.STATE, new FireRows().turn(0));
        e.due("BAD ahead of STATE", Edges.BAD, new FireRows().turn(3));
    }
}
