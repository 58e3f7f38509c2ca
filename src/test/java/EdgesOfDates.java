/** Promises 27 to 29, 34 and 35: needles, houses that lean, images. */
final class EdgesOfDates {
    private static final String FLOOR = Edges.FLOOR, FIRE = Edges.FIRE, STORY = Edges.STORY;
    private final Edges e;

    EdgesOfDates(Edges edges) {
        e = edges;
    }

    void run() {
        says();
        wandered();
        leans();
        image();
        restore();
    }

    private void says() {
        e.terms("A NEEDLE on a HILL: how far north (y) its FIRE was as it came: from y less s to y and s.");
        FireRows x = Checks.world("floor 1 0 50;fire 0 100 0 9 1 0;house 0 0;story stays 1;story wanders 1;");
        x.hill(0, 0);
        x.date(0, 0, 10);
        int[][] needles = {{100, 0, 1}, {99, 0, 0}, {101, 0, 0}, {97, 3, 1}, {96, 3, 0}, {103, 3, 1}, {104, 3, 0}, {1099, 999, 1},
            {1100, 999, 0}, {-899, 999, 1}, {-900, 999, 0}, {99999, 999, 0}, {-99999, 999, 0}};
        for (int[] n : needles) {
            x.needle(0, n[0], n[1]);
            e.due("y " + n[0] + ", s " + n[1], n[2], x.says(0));
        }
        e.terms("It SAYS a STORY (stays, wanders), if Y of the NEAREST FIRE at that AGE by the STORY is within.");
        x.needle(0, 10, 0);
        e.due("wanders, at age 10", 1, x.says(1));
        e.due("stays is elsewhere", 0, x.says(0));
        x.needle(0, 11, 0);
        e.due("by one", 0, x.says(1));
        x.needle(0, 9, 0);
        e.due("by one the other way", 0, x.says(1));
        x.needle(0, 55, 45);
        e.due("both, stays", 1, x.says(0));
        e.due("both, wanders", 1, x.says(1));
        FireRows far = Checks.world("floor 99 1 0;fire 0 -9999 0 9 1 0;house 0 0;story wanders 1;story stays 1;");
        far.hill(99, -9999);
        far.date(0, 0, 99);
        far.needle(0, -9999 - 891, 0);
        e.due("at age 99", 1, far.says(0));
        e.due("at age 99 it stays not", 0, far.says(1));
        FireRows two = Checks.world("floor 1 0 0;fire 0 0 0 0 1 0;fire 0 50 0 0 1 0;" + STORY);
        two.hill(0, 26);
        two.needle(0, 50, 0);
        e.due("of the nearest fire", 1, two.says(0));
        two.hill(0, 25);
        two.needle(1, 50, 0);
        e.due("of several the least", 1, two.says(0));
        e.promise(27, "How many NEEDLES SAY a STORY (stays, wanders).");
        FireRows all = Edges.rest(12);
        e.due("none", 0, all.says(0));
        for (int h = 0; h < 12; h++) {
            all.needle(h, 0, 0);
            e.due("of " + (h + 1), h + 1, all.says(0));
        }
        all.needle(11, 1, 0);
        e.due("but for the last", 11, all.says(0));
        e.promise(27, "BAD: another one, too.");
        FireRows other = Checks.world(FLOOR + FIRE + "crack 0 0 0 0 0;story late 1;story crack 1;story wanders 1;");
        e.due("late", Edges.BAD, other.says(0));
        e.due("crack", Edges.BAD, other.says(1));
        e.due("wanders, no hills", 0, other.says(2));
        e.due("story 3", Edges.BAD, other.says(3));
        e.due("story -1", Edges.BAD, other.says(-1));
        e.due("no floor", Edges.BAD, new FireRows().says(0));
    }

    private void wandered() {
        e.terms("WANDERED of two HILLS with NEEDLES: by how much their FIRE was farther north for the first one: at least, at most.");
        FireRows x = Edges.rest(3);
        x.needle(0, 99999, 999);
        x.needle(1, -99999, 999);
        e.due("farthest, at least", 199998 - 1998, x.wandered(0, 1, 0));
        e.due("farthest, at most", 199998 + 1998, x.wandered(0, 1, 1));
        e.due("backward, at least", -199998 - 1998, x.wandered(1, 0, 0));
        e.due("backward, at most", -199998 + 1998, x.wandered(1, 0, 1));
        x.needle(0, 5, 0);
        x.needle(1, 5, 0);
        e.due("alike, at least", 0, x.wandered(0, 1, 0));
        e.due("alike, at most", 0, x.wandered(0, 1, 1));
        e.promise(28, "WANDERED of two HILLS: at least (what = 0), at most (1); NONE: one has no NEEDLE.");
        for (int what = 0; what < 2; what++) {
            e.due("the second has none", Edges.NONE, x.wandered(0, 2, what));
            e.due("the first has none", Edges.NONE, x.wandered(2, 0, what));
            e.due("both have none", Edges.NONE, Edges.rest(2).wandered(0, 1, what));
        }
        e.promise(28, "BAD (alike, too).");
        e.due("alike", Edges.BAD, x.wandered(0, 0, 0));
        e.due("alike without a needle", Edges.BAD, x.wandered(2, 2, 0));
        e.due("a 3", Edges.BAD, x.wandered(3, 0, 0));
        e.due("b 3", Edges.BAD, x.wandered(0, 3, 0));
        e.due("what 2", Edges.BAD, x.wandered(0, 1, 2));
        e.due("what 2 ahead of NONE", Edges.BAD, x.wandered(0, 2, 2));
        e.due("no floor", Edges.BAD, new FireRows().wandered(0, 1, 0));
    }

    private void leaning(FireRows x, String of, int a, int b, int from, int to) {
        e.due(of + ", from", from, x.leans(a, b, 0));
        e.due(of + ", to", to, x.leans(a, b, 1));
    }

    private void leans() {
        e.terms("LEANS of two HOUSES a, b: by how much a's DATES lean more than b's: from HILLS with one of a and one of b (the first of "
            + "each): (v of a less that of b), less and more SPANS of both: what is in all;");
        FireRows x = Checks.world(FLOOR + FIRE + "house 9 20;house -9 20;house 0 0;house 0 0;" + STORY);
        for (int h = 0; h < 12; h++) {
            x.hill(0, 0);
        }
        x.date(0, 0, 99);
        x.date(0, 1, 0);
        leaning(x, "farthest", 0, 1, 59, 139);
        leaning(x, "the other way", 1, 0, -139, -59);
        x.date(0, 0, 0);
        x.date(0, 1, 99);
        leaning(x, "the first of each", 0, 1, 59, 139);
        x.date(1, 1, 5);
        x.date(1, 0, 5);
        leaning(x, "nothing is in both: to 40, from 59 on", 0, 1, Edges.NONE, Edges.NONE);
        FireRows y = Checks.world(FLOOR + FIRE + "house 9 20;house -9 20;house 0 0;house 0 0;" + STORY);
        for (int h = 0; h < 12; h++) {
            y.hill(0, 0);
            y.date(h, 0, 40 + h);
            y.date(h, 1, 40);
            leaning(y, "of " + (h + 1) + " hills", 0, 1, h - 40, 40);
        }
        FireRows edge = Checks.world(FLOOR + FIRE + "house 0 1;house 0 2;house 3 0;house 5 0;" + STORY);
        edge.hill(0, 0);
        edge.hill(0, 0);
        edge.date(0, 0, 10);
        edge.date(0, 1, 10);
        edge.date(1, 0, 16);
        edge.date(1, 1, 10);
        leaning(edge, "they meet in one", 0, 1, 3, 3);
        edge.hill(0, 0);
        edge.date(2, 2, 8);
        edge.date(2, 3, 9);
        leaning(edge, "no spans", 2, 3, -1, -1);
        edge.hill(0, 0);
        edge.date(3, 2, 8);
        edge.date(3, 3, 8);
        e.terms("NONE: nothing, or there is no such HILL.");
        leaning(edge, "nothing: -1 and 0", 2, 3, Edges.NONE, Edges.NONE);
        leaning(edge, "no hill has both", 0, 2, Edges.NONE, Edges.NONE);
        leaning(Edges.rest(0), "no hills", 0, 1, Edges.NONE, Edges.NONE);
        leaning(Edges.rest(12), "no dates", 0, 1, Edges.NONE, Edges.NONE);
        FireRows apart = Edges.rest(2);
        apart.date(0, 0, 5);
        apart.date(1, 1, 5);
        leaning(apart, "on two hills", 0, 1, Edges.NONE, Edges.NONE);
        e.promise(29, "LEANS of two HOUSES: from (what = 0), to (1); NONE.");
        apart.date(0, 1, 6);
        leaning(apart, "on one hill", 0, 1, -6, 4);
        e.promise(29, "BAD (alike, too).");
        e.due("alike", Edges.BAD, apart.leans(1, 1, 0));
        e.due("a 2", Edges.BAD, apart.leans(2, 0, 0));
        e.due("b 2", Edges.BAD, apart.leans(0, 2, 0));
        e.due("what 2", Edges.BAD, apart.leans(0, 1, 2));
        e.due("what -1", Edges.BAD, apart.leans(0, 1, -1));
        e.due("no houses", Edges.BAD, Checks.world(FLOOR + FIRE + STORY).leans(0, 1, 0));
        e.due("no floor", Edges.BAD, new FireRows().leans(0, 1, 0));
    }

    private void image() {
        e.promise(34, "An IMAGE (0, 1) is kept of the FLOOR and all HILLS: 1.");
        FireRows x = Edges.rest(0);
        e.due("of no hills", 1, x.image(0));
        for (int h = 0; h < 12; h++) {
            x.hill(h, -h);
            for (int d = 0; d < 4; d++) {
                x.date(h, 1, 40 + h);
            }
            x.needle(h, h, h);
        }
        e.due("of all hills", 1, x.image(1));
        otherHills(x);
        x.restore(1);
        for (int h = 0; h < 12; h++) {
            int[] told = {h, -h, 4, 35 + h, 45 + h, 0, 1};
            for (int what = 0; what < 7; what++) {
                e.due("hill " + h + ", " + what, told[what], x.told(h, what));
            }
            e.due("hill " + h + " has all its dates", Edges.FULL, x.date(h, 0, 0));
        }
        e.due("all hills have room for no more", Edges.FULL, x.hill(0, 0));
        e.due("needles, at least", -11 - 11, x.wandered(0, 11, 0));
        e.due("needles, at most", -11 + 11, x.wandered(0, 11, 1));
        keptDates();
        x.restore(0);
        e.due("no hills", 0, x.count(6));
        x.hill(5, 5);
        e.due("in place of one that is there", 1, x.image(0));
        x.restore(1);
        x.restore(0);
        e.due("the later one", 1, x.count(6));
        e.promise(34, "BAD; STATE: no FLOOR.");
        e.due("image 2", Edges.BAD, x.image(2));
        e.due("image -1", Edges.BAD, x.image(-1));
        e.due("image most", Edges.BAD, x.image(Edges.MOST));
        FireRows none = new FireRows();
        e.due("no floor", Edges.STATE, none.image(0));
        e.due("BAD ahead of STATE", Edges.BAD, none.image(2));
        e.due("none was kept", Edges.STATE, none.restore(0));
        Checks.read(none, FLOOR);
        e.due("no floor by a fault", Edges.STATE, none.image(1));
    }

    /** Twelve hills that are not like any that an image keeps: all are again. */
    private static void otherHills(FireRows x) {
        Checks.read(x, FLOOR + FIRE + "house 0 0;house 0 0;house 0 0;" + STORY);
        for (int h = 0; h < 12; h++) {
            x.hill(500 + h, 600 + h);
            x.date(h, 2, 90);
            x.date(h, 2, 7);
            x.needle(h, 700 * h, 800);
        }
    }

    /** Houses and ages of dates are seen by what the houses lean, and by one date more. */
    private void keptDates() {
        FireRows x = Edges.rest(12);
        for (int h = 0; h < 12; h++) {
            x.date(h, 0, 50);
            x.date(h, 1, 40 + Math.min(h, 10));
        }
        x.image(0);
        otherHills(x);
        x.restore(0);
        leaning(x, "dates of all hills", 0, 1, 5, 5);
        for (int h = 0; h < 12; h++) {
            e.due("one more of " + h, 3, x.date(h, 1, 50));
            boolean isAgain = h < 5;
            e.ends(x, "with one more of " + h, h, 50, 50, isAgain ? 1 : 0);
        }
    }

    private void restore() {
        e.promise(35, "FLOOR and HILLS are as an IMAGE kept them: 1.");
        FireRows x = Checks.world("floor 2 3 4;floor 9 -1 0;fire 1 2 3 4 5 6;house 1 2;crack 7 8 9 10 11;story crack 2;story late 3;");
        x.hill(9, 8);
        x.date(0, 0, 50);
        x.needle(0, 7, 6);
        x.image(0);
        Checks.read(x, "floor 1 99 99;" + FIRE + FIRE + "house 9 9;house 8 8;house 7 7;" + STORY + STORY + STORY);
        x.hill(1, 1);
        x.hill(2, 2);
        x.image(1);
        Checks.fill(x, 3, 4, 5, 6);
        Checks.feed(x, "floor");
        x.ask(1, 0);
        int first = x.trace(0);
        for (int round = 0; round < 2; round++) {
            e.due("the first", 1, x.restore(0));
            int[] counts = {1, 2, 1, 1, 1, 2, 1, 1, 1, 5};
            for (int what = 0; what < 10; what++) {
                e.due("count " + what, counts[what], x.count(what));
            }
            e.due("drift", 6 - 97, x.drift(99, 0));
            e.due("the crack", 7 + 9, x.where(0, 0, 1, 0));
            e.due("the fire", 1 + 3, x.where(1, 0, 1, 0));
            e.ends(x, "its date", 0, 47, 51, 0);
            e.due("the sheets stay", 6, x.set(3, 2, 6));
            e.due("the trace stays", first, x.trace(0));
            x.date(0, 0, 1);
            x.hill(0, 0);
            e.due("the second", 1, x.restore(1));
            e.due("its hills", 2, x.count(6));
            e.due("its dates", 0, x.count(7));
            e.due("its needles", 0, x.count(8));
            e.due("its drift", 9801, x.drift(99, 0));
            x.date(0, 2, 3);
        }
        e.due("a tape that was there ahead of it is read", -1000105, x.floor());
        e.due("images stay with a new floor", 1, Checks.read(x, FLOOR + FIRE + STORY));
        e.due("the first once more", 1, x.restore(0));
        e.due("its stories", 2, x.count(5));
        e.promise(35, "BAD; STATE: none was kept.");
        e.due("image 2", Edges.BAD, x.restore(2));
        e.due("image -1", Edges.BAD, x.restore(-1));
        FireRows one = Edges.rest(1);
        e.due("none was kept, 0", Edges.STATE, one.restore(0));
        e.due("none was kept, 1", Edges.STATE, one.restore(1));
        one.image(1);
        e.due("still none, 0", Edges.STATE, one.restore(0));
        e.due("but 1", 1, one.restore(1));
        e.due("none of another object", Edges.STATE, new FireRows().restore(1));
        e.due("BAD ahead of STATE", Edges.BAD, new FireRows().restore(2));
    }
}
