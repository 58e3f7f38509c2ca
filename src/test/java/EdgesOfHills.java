/** Promises 9 to 15: drift, where stories have hills, hills, dates, needles. */
final class EdgesOfHills {
    private static final String FLOOR = Edges.FLOOR, FIRE = Edges.FIRE, STORY = Edges.STORY;
    private static final String FAST = "floor 99 99 -99;fire 9999 -9999 -9 9 1 0;fire -9999 9999 9 -9 1 0;"
        + "crack 9999 -9999 99 -99 0;story stays 1;story wanders 1;story crack 1;story late 1;";
    private final Edges e;

    EdgesOfHills(Edges edges) {
        e = edges;
    }

    void run() {
        ages();
        drift();
        where();
        hill();
        hills();
        date();
        endsOfDates();
        endsOfHills();
        needle();
        told();
    }

    private void ages() {
        e.terms("2 AGES 0 to 99, backward from now.");
        FireRows x = Checks.world(plain());
        x.hill(0, 0);
        e.due("drift of 0", 0, x.drift(0, 0));
        e.due("drift of 99", 99, x.drift(99, 0));
        e.due("drift of 100", Edges.BAD, x.drift(100, 0));
        e.due("where at 0", 0, x.where(0, 0, 0, 0));
        e.due("where at 99", 99, x.where(0, 0, 99, 0));
        e.due("where at 100", Edges.BAD, x.where(0, 0, 100, 0));
        e.due("date of 0", 1, x.date(0, 0, 0));
        e.due("date of 99", 2, x.date(0, 0, 99));
        e.due("date of 100", Edges.BAD, x.date(0, 0, 100));
        e.terms("In the u-th unit of AGE (1 on) the FLOOR moved by VX, VY of the first 'floor' whose TILL is u or more, else of the last.");
        FireRows y = Checks.world("floor 1 5 -5;floor 2 7 -7;floor 50 1 -1;floor 51 90 -90;" + FIRE + STORY);
        int[] age = {0, 1, 2, 3, 49, 50, 51, 52, 99};
        int[] moved = {0, 5, 12, 13, 59, 60, 150, 240, 60 + 49 * 90};
        for (int i = 0; i < age.length; i++) {
            e.due("x at " + age[i], moved[i], y.drift(age[i], 0));
            e.due("y at " + age[i], -moved[i], y.drift(age[i], 1));
        }
        e.due("else of the last, though it ends at 1", 99 * -99, Checks.world("floor 1 -99 0;" + FIRE + STORY).drift(99, 0));
        e.due("a unit of its own at the end, alike in x", 99, Checks.world("floor 98 1 0;floor 99 1 9;" + FIRE + STORY).drift(99, 0));
        e.due("not alike in y", 9, Checks.world("floor 98 1 0;floor 99 1 9;" + FIRE + STORY).drift(99, 1));
        e.terms("DRIFT of an AGE a: what it moved in units 1 to a, added.");
        FireRows z = Checks.world("floor 3 -4 0;floor 9 4 1;" + FIRE + STORY);
        e.due("there", -12, z.drift(3, 0));
        e.due("and back", 0, z.drift(6, 0));
        e.due("farthest", 9801, Checks.world("floor 99 99 -99;" + FIRE + STORY).drift(99, 0));
        e.due("farthest y", -9801, Checks.world("floor 99 99 -99;" + FIRE + STORY).drift(99, 1));
    }

    private static String plain() {
        return FLOOR + FIRE + "house 0 0;" + STORY;
    }

    private void drift() {
        e.promise(9, "DRIFT of an AGE: in x (what = 0), in y (1).");
        FireRows x = Checks.world("floor 4 3 -2;" + FIRE + STORY);
        e.due("in x", 12, x.drift(4, 0));
        e.due("in y", -8, x.drift(4, 1));
        e.promise(9, "BAD; STATE: no FLOOR.");
        e.due("what 2", Edges.BAD, x.drift(0, 2));
        e.due("what -1", Edges.BAD, x.drift(0, -1));
        e.due("age -1", Edges.BAD, x.drift(-1, 0));
        e.due("age 100", Edges.BAD, x.drift(100, 1));
        e.due("most", Edges.BAD, x.drift(Edges.MOST, 0));
        FireRows none = new FireRows();
        e.due("no floor", Edges.STATE, none.drift(0, 0));
        e.due("no floor, age 100", Edges.BAD, none.drift(100, 0));
        Checks.read(none, FLOOR + FIRE + "story stays 0;");
        e.due("no floor by a fault", Edges.STATE, none.drift(99, 1));
    }

    private void where() {
        FireRows x = Checks.world(FAST);
        e.terms("A FIRE was, at AGE a, at X less WX times a, Y less WY times a.");
        e.due("x at 99", 9999 + 891 + 9801, x.where(1, 0, 99, 0));
        e.due("y at 99", -9999 - 891 - 9801, x.where(1, 0, 99, 1));
        e.due("x of the other at 99", -9999 - 891 + 9801, x.where(1, 1, 99, 0));
        e.due("at 0 it is where it is told", 9999, x.where(1, 0, 0, 0));
        e.terms("A STORY has a HILL of AGE a at: stays: X and Y of a FIRE, and DRIFT of a.");
        e.due("x at 99", 9999 + 9801, x.where(0, 0, 99, 0));
        e.due("y at 99", -9999 - 9801, x.where(0, 0, 99, 1));
        e.due("x at 0", 9999, x.where(0, 0, 0, 0));
        e.terms("wanders: where the FIRE was at a, and DRIFT of a.");
        e.due("x at 1", 9999 + 9 + 99, x.where(1, 0, 1, 0));
        e.due("y at 1", -9999 - 9 - 99, x.where(1, 0, 1, 1));
        e.terms("crack: X and VX times a, Y and VY times a of the crack (as one FIRE, 0).");
        e.due("x at 99", 9999 + 9801, x.where(2, 0, 99, 0));
        e.due("y at 99", -9999 - 9801, x.where(2, 0, 99, 1));
        e.due("at 0", 9999, x.where(2, 0, 0, 0));
        e.due("no fire 1", Edges.BAD, x.where(2, 1, 0, 0));
        FireRows still = Checks.world("floor 9 99 99;" + FIRE + "crack 5 6 0 0 0;story crack 1;");
        e.due("without the drift", 5, still.where(0, 0, 99, 0));
        e.due("without the drift, y", 6, still.where(0, 0, 99, 1));
        e.terms("late: as stays.");
        e.due("x at 99", 9999 + 9801, x.where(3, 0, 99, 0));
        e.due("y of the other at 99", 9999 - 9801, x.where(3, 1, 99, 1));
        e.promise(10, "Where a STORY has a HILL of a FIRE, an AGE: x (what = 0), y (1).");
        e.due("last story, last fire, last age, x", -9999 + 9801, x.where(3, 1, 99, 0));
        e.due("first of all, y", -9999, x.where(0, 0, 0, 1));
        e.promise(10, "BAD (by a crack FIRE 0 alone).");
        e.due("story 4", Edges.BAD, x.where(4, 0, 0, 0));
        e.due("fire 2", Edges.BAD, x.where(0, 2, 0, 0));
        e.due("a crack's fire 1, though there is one", Edges.BAD, x.where(2, 1, 0, 0));
        e.due("age 100", Edges.BAD, x.where(2, 0, 100, 0));
        e.due("what 2", Edges.BAD, x.where(2, 0, 0, 2));
        e.due("no floor", Edges.BAD, new FireRows().where(0, 0, 0, 0));
    }

    private void hill() {
        e.terms("HILLS 0 .. 11 (12 at most), each at a place (-99999 to 99999).");
        int[][] places = {{99999, 0}, {-99999, 0}, {0, 99999}, {0, -99999}, {99999, -99999}, {0, 0}};
        int[][] beyond = {{100000, 0}, {-100000, 0}, {0, 100000}, {0, -100000}, {Edges.MOST, 0}, {0, Edges.LEAST}};
        FireRows x = Edges.rest(0);
        for (int h = 0; h < 12; h++) {
            int[] p = places[h % 6];
            e.due("beyond " + h, Edges.BAD, x.hill(beyond[h % 6][0], beyond[h % 6][1]));
            e.due("hill " + h, h, x.hill(p[0], p[1]));
            e.due("x of " + h, p[0], x.told(h, 0));
            e.due("y of " + h, p[1], x.told(h, 1));
        }
        e.due("no hill 12", Edges.FULL, x.hill(0, 0));
        e.promise(11, "A HILL at a place: its number.");
        FireRows y = Edges.rest(0);
        e.due("the first", 0, y.hill(7, 7));
        e.due("the second at the same place", 1, y.hill(7, 7));
        e.promise(11, "BAD; STATE: no FLOOR; FULL.");
        e.due("BAD ahead of FULL", Edges.BAD, x.hill(100000, 0));
        e.due("FULL", Edges.FULL, x.hill(99999, 99999));
        e.due("still twelve", 12, x.count(6));
        FireRows none = new FireRows();
        e.due("STATE", Edges.STATE, none.hill(99999, 99999));
        e.due("BAD ahead of STATE", Edges.BAD, none.hill(0, 100000));
    }

    private void hills() {
        e.promise(12, "HILLS from n pairs of ITEMS (x, y) of a SHEET from i on: how many HILLS there are then.");
        FireRows x = Edges.rest(0);
        Checks.fill(x, 0, 1, -2, 3, -4, 99999, -99999);
        e.due("from an odd place on", 2, x.hills(0, 1, 2));
        e.due("x of the first", -2, x.told(0, 0));
        e.due("y of the first", 3, x.told(0, 1));
        e.due("x of the second", -4, x.told(1, 0));
        e.due("y of the second", 99999, x.told(1, 1));
        e.due("the last pair", 3, x.hills(0, 4, 1));
        e.due("y of the third", -99999, x.told(2, 1));
        FireRows y = Edges.rest(0);
        y.sheet(0, 0, 40);
        e.due("twelve from the last place that can be", 12, y.hills(0, 16, 12));
        e.promise(12, "BAD: SHEET, n (1 to 12); STATE: no FLOOR; NULL; PLACE; then BAD: an ITEM; FULL: not room for all.");
        FireRows z = Edges.rest(1);
        z.sheet(0, 2, 24);
        e.due("no sheet", Edges.BAD, z.hills(8, 0, 1));
        e.due("n 0", Edges.BAD, z.hills(0, 0, 0));
        e.due("n 13", Edges.BAD, z.hills(0, 0, 13));
        e.due("n most", Edges.BAD, z.hills(0, 0, Edges.MOST));
        e.due("n ahead of a missing sheet", Edges.BAD, z.hills(1, 0, 13));
        e.due("no floor", Edges.STATE, new FireRows().hills(0, 0, 12));
        e.due("missing", Edges.NULL, z.hills(1, -1, 1));
        e.due("i -1", Edges.PLACE, z.hills(0, -1, 1));
        e.due("i beyond", Edges.PLACE, z.hills(0, 23, 1));
        e.due("i at the end", Edges.PLACE, z.hills(0, 24, 1));
        e.due("i most", Edges.PLACE, z.hills(0, Edges.MOST, 12));
        e.due("i one too far", Edges.PLACE, z.hills(0, 1, 12));
        for (int v : new int[] {100000, -100000, Edges.MOST, Edges.LEAST}) {
            z.set(0, 3, v);
            e.due("item " + v, Edges.BAD, z.hills(0, 0, 2));
            e.due("item " + v + " ahead of FULL", Edges.BAD, z.hills(0, 0, 12));
            e.due("item " + v + " ahead is not looked at", Edges.PLACE, z.hills(0, 4, 12));
        }
        e.due("none came", 1, z.count(6));
        z.set(0, 3, 99999);
        e.due("no room for one of twelve", Edges.FULL, z.hills(0, 0, 12));
        e.due("none of them came", 1, z.count(6));
        e.due("room for eleven", 12, z.hills(0, 2, 11));
        e.due("no room for one", Edges.FULL, z.hills(0, 0, 1));
        FireRows none = new FireRows();
        none.sheet(0, 2, 0);
        e.due("STATE ahead of PLACE", Edges.STATE, none.hills(0, 5, 1));
        e.due("BAD ahead of STATE", Edges.BAD, none.hills(0, 5, 0));
    }

    private void date() {
        FireRows x = Edges.rest(2);
        e.terms("DATES of a HILL: 4 at most.");
        for (int d = 1; d <= 4; d++) {
            e.due("date " + d, d, x.date(0, d % 2, 40 + d));
        }
        e.due("a fifth", Edges.FULL, x.date(0, 0, 40));
        e.due("another hill has room", 1, x.date(1, 0, 40));
        e.promise(13, "A DATE: how many the HILL has.");
        e.due("a second one alike", 2, x.date(1, 0, 40));
        e.due("they are two", 2, x.told(1, 2));
        e.due("all dates", 6, x.count(7));
        e.promise(13, "BAD; FULL: 4.");
        e.due("hill 2", Edges.BAD, x.date(2, 0, 0));
        e.due("house 2", Edges.BAD, x.date(1, 2, 0));
        e.due("v 100", Edges.BAD, x.date(1, 0, 100));
        e.due("v -1", Edges.BAD, x.date(1, 0, -1));
        e.due("BAD ahead of FULL, house", Edges.BAD, x.date(0, 2, 0));
        e.due("BAD ahead of FULL, v", Edges.BAD, x.date(0, 0, 100));
        e.due("FULL", Edges.FULL, x.date(0, 1, 0));
        e.due("four stay", 4, x.told(0, 2));
        e.ends(x, "as ahead of it", 0, 44, 44, 1);
        FireRows none = Checks.world(FLOOR + FIRE + STORY);
        none.hill(0, 0);
        e.due("no houses", Edges.BAD, none.date(0, 0, 0));
        e.due("no floor", Edges.BAD, new FireRows().date(0, 0, 0));
    }

    private void endsOfDates() {
        e.terms("A DATE of a HOUSE on a HILL: an AGE told v (0 to 99): its ENDS: v less LEAN less SPAN, and v less LEAN and SPAN, "
            + "each 0 at least, 99 at most.");
        FireRows x = Checks.world("floor 1 0 0;" + FIRE + "house 9 20;house -9 20;house 9 0;house -9 0;" + STORY);
        int[][] told = {{0, 0, 0, 11}, {0, 28, 0, 39}, {0, 29, 0, 40}, {0, 30, 1, 41}, {0, 99, 70, 99}, {1, 0, 0, 29}, {1, 11, 0, 40},
            {1, 12, 1, 41}, {1, 70, 59, 99}, {1, 71, 60, 99}, {1, 99, 88, 99}, {2, 0, 0, 0}};
        for (int h = 0; h < 12; h++) {
            x.hill(0, 0);
            e.due("date " + told[h][1] + " of " + told[h][0], 1, x.date(h, told[h][0], told[h][1]));
            e.ends(x, told[h][1] + " of house " + told[h][0], h, told[h][2], told[h][3], 0);
        }
        Checks.read(x, "floor 1 0 0;" + FIRE + "house 9 20;house -9 20;house 9 0;house -9 0;" + STORY);
        int[][] sharp = {{2, 8, 0, 0}, {2, 9, 0, 0}, {2, 10, 1, 1}, {2, 99, 90, 90}, {3, 0, 9, 9}, {3, 89, 98, 98}, {3, 90, 99, 99},
            {3, 91, 99, 99}, {3, 99, 99, 99}, {1, 69, 58, 98}};
        for (int h = 0; h < sharp.length; h++) {
            x.hill(0, 0);
            x.date(h, sharp[h][0], sharp[h][1]);
            e.ends(x, sharp[h][1] + " of house " + sharp[h][0], h, sharp[h][2], sharp[h][3], 0);
        }
        e.due("v -1", Edges.BAD, x.date(0, 0, -1));
        e.due("v 100", Edges.BAD, x.date(0, 0, 100));
    }

    private void endsOfHills() {
        FireRows x = Edges.rest(6);
        e.terms("Without DATES: 0, 99.");
        e.ends(x, "none", 5, 0, 99, 0);
        e.terms("ENDS of a HILL: those of all its DATES together (the greatest lower one, the least upper one);");
        x.date(0, 1, 40);
        e.ends(x, "one", 0, 35, 45, 0);
        x.date(0, 1, 43);
        e.ends(x, "two", 0, 38, 45, 0);
        x.date(0, 1, 33);
        e.ends(x, "they meet in one age", 0, 38, 38, 0);
        x.date(0, 0, 38);
        e.ends(x, "four", 0, 38, 38, 0);
        e.terms("if there is nothing in all of them it is AGAIN, and ENDS are those of the DATE with the greatest lower end, of several "
            + "the first.");
        x.date(1, 1, 40);
        x.date(1, 1, 51);
        e.ends(x, "by one age", 1, 46, 56, 1);
        x.date(1, 0, 46);
        e.ends(x, "of several the first", 1, 46, 56, 1);
        x.date(2, 0, 46);
        x.date(2, 1, 40);
        x.date(2, 1, 51);
        e.ends(x, "of several the first, the sharp one", 2, 46, 46, 1);
        x.date(3, 1, 51);
        x.date(3, 1, 40);
        e.ends(x, "in another order", 3, 46, 56, 1);
        x.date(3, 0, 50);
        e.ends(x, "a later one with a greater lower end", 3, 50, 50, 1);
        x.date(4, 0, 99);
        x.date(4, 0, 0);
        e.ends(x, "farthest", 4, 99, 99, 1);
        x.date(4, 1, 99);
        x.date(4, 1, 50);
        e.ends(x, "it stays so", 4, 99, 99, 1);
    }

    private void needle() {
        e.promise(14, "A NEEDLE, in place of one that is there (y as places are, s 0 to 999): 1.");
        FireRows x = Edges.rest(2);
        x.needle(1, 0, 0);
        int[][] needles = {{99999, 0}, {-99999, 999}, {0, 0}, {5, 7}};
        for (int[] n : needles) {
            e.due("y " + n[0] + ", s " + n[1], 1, x.needle(0, n[0], n[1]));
            e.due("at least", n[0] - n[1], x.wandered(0, 1, 0));
            e.due("at most", n[0] + n[1], x.wandered(0, 1, 1));
            e.due("one of each hill", 2, x.count(8));
        }
        e.promise(14, "BAD.");
        e.due("y 100000", Edges.BAD, x.needle(0, 100000, 1));
        e.due("y -100000", Edges.BAD, x.needle(0, -100000, 1));
        e.due("s 1000", Edges.BAD, x.needle(0, 1, 1000));
        e.due("s -1", Edges.BAD, x.needle(0, 1, -1));
        e.due("hill 2", Edges.BAD, x.needle(2, 0, 0));
        e.due("no floor", Edges.BAD, new FireRows().needle(0, 0, 0));
        e.due("the one that is there stays", 5 - 7, x.wandered(0, 1, 0));
    }

    private void told() {
        e.promise(15, "Of a HILL: 0 x, 1 y, 2 how many DATES, 3 its lower end, 4 its upper end, 5 whether AGAIN (1, 0), 6 whether it "
            + "has a NEEDLE.");
        FireRows x = Edges.rest(11);
        x.hill(-99999, 99999);
        int[] first = {-99999, 99999, 0, 0, 99, 0, 0};
        for (int what = 0; what < 7; what++) {
            e.due("of the last hill, " + what, first[what], x.told(11, what));
        }
        x.date(11, 0, 5);
        x.date(11, 0, 6);
        x.needle(11, 0, 0);
        int[] later = {-99999, 99999, 2, 6, 6, 1, 1};
        for (int what = 0; what < 7; what++) {
            e.due("later, " + what, later[what], x.told(11, what));
        }
        e.promise(15, "BAD.");
        e.due("hill 12", Edges.BAD, x.told(12, 0));
        e.due("what 7", Edges.BAD, x.told(11, 7));
        e.due("what -1", Edges.BAD, x.told(11, -1));
        e.due("what most", Edges.BAD, x.told(11, Edges.MOST));
        e.due("no floor", Edges.BAD, new FireRows().told(0, 0));
    }
}
