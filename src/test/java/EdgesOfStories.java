/** Promises 16 to 20, 32 and 33: what stories say of hills, hills made, which to bore, which comes next. */
final class EdgesOfStories {
    private static final String STORY = Edges.STORY;
    /** The floor goes by 1 a unit; two fires, the second of which reaches farther; a crack that goes by 2. */
    private static final String FOUR = "floor 99 1 0;fire 0 0 0 0 20 3;fire 500 0 0 0 5 9;house 0 0;house 0 5;crack 0 0 2 0 4;"
        + "story stays 1;story wanders 1;story crack 1;story late 1;";
    private final Edges e;

    EdgesOfStories(Edges edges) {
        e = edges;
    }

    void run() {
        off();
        nearest();
        several();
        fits();
        odds();
        belong();
        made();
        bore();
        next();
    }

    private void nearest(FireRows x, String of, int hill, int story, int... want) {
        for (int what = 0; what < 4; what++) {
            e.due(of + ", what " + what, want[what], x.nearest(hill, story, what));
        }
    }

    private void off() {
        e.terms("OFF of a HILL by a STORY, a FIRE at an AGE: how far its place is from that, in x and in y, added.");
        FireRows x = Edges.rest(1);
        x.hill(99999, 99999);
        x.hill(-99999, -99999);
        x.hill(-3, 4);
        e.due("at the place", 0, x.nearest(0, 0, 2));
        e.due("farthest", 199998, x.nearest(1, 0, 2));
        e.due("farthest the other way", 199998, x.nearest(2, 0, 2));
        e.due("in x and in y", 7, x.nearest(3, 0, 2));
    }

    private void nearest() {
        e.terms("NEAREST: of all FIRES (of the STORY), AGES within its ENDS (late: from the lower one to 99) that by which it is least OFF,");
        FireRows x = Checks.world(FOUR);
        x.hill(0, 0);
        nearest(x, "the youngest age", 0, 0, 0, 0, 0, 1);
        x.hill(99, 0);
        nearest(x, "the oldest age", 1, 0, 0, 99, 0, 1);
        x.hill(100, 0);
        nearest(x, "beyond the oldest age", 2, 0, 0, 99, 1, 1);
        x.hill(40, 0);
        x.date(3, 1, 40);
        nearest(x, "in the midst", 3, 0, 0, 40, 0, 1);
        x.hill(45, 0);
        x.date(4, 1, 40);
        nearest(x, "at the upper end", 4, 0, 0, 45, 0, 1);
        x.hill(46, 0);
        x.date(5, 1, 40);
        nearest(x, "beyond the upper end", 5, 0, 0, 45, 1, 1);
        nearest(x, "late goes on", 5, 3, 0, 46, 0, 1);
        x.hill(35, 0);
        x.date(6, 1, 40);
        nearest(x, "at the lower end", 6, 0, 0, 35, 0, 1);
        x.hill(34, 0);
        x.date(7, 1, 40);
        nearest(x, "ahead of the lower end", 7, 0, 0, 35, 1, 1);
        nearest(x, "late is not ahead of it", 7, 3, 0, 35, 1, 1);
        x.hill(99, 0);
        x.date(8, 0, 0);
        nearest(x, "ends of 0 alone", 8, 0, 0, 0, 99, 0);
        nearest(x, "late to 99", 8, 3, 0, 99, 0, 1);
        x.hill(0, 0);
        x.date(9, 0, 99);
        nearest(x, "late from 99 on", 9, 3, 0, 99, 99, 0);
        x.hill(198, 0);
        nearest(x, "a crack to 99", 10, 2, 0, 99, 0, 1);
        FireRows north = Checks.world("floor 99 0 1;fire 0 0 0 1 1 0;fire 0 9 0 -1 1 0;crack 0 0 0 -3 0;" + STORY
            + "story wanders 1;story crack 1;");
        north.hill(0, 99);
        nearest(north, "north, of several the least fire", 0, 0, 0, 99, 0, 1);
        nearest(north, "where a fire wandered by twice as much", 0, 1, 1, 45, 0, 1);
        north.hill(0, -297);
        nearest(north, "south by the crack", 1, 2, 0, 99, 0, 1);
        e.promise(16, "NEAREST of a HILL by a STORY: the FIRE (what = 0), the AGE (1), by how much it is OFF (2), whether it FITS (3: 1, 0).");
        x.hill(600, 9);
        nearest(x, "the other fire", 11, 0, 1, 99, 10, 1);
        nearest(x, "the crack's one fire", 11, 2, 0, 99, 411, 0);
        e.promise(16, "BAD.");
        e.due("hill 12", Edges.BAD, x.nearest(12, 0, 0));
        e.due("story 4", Edges.BAD, x.nearest(0, 4, 0));
        e.due("what 4", Edges.BAD, x.nearest(0, 0, 4));
        e.due("what -1", Edges.BAD, x.nearest(0, 0, -1));
        e.due("no floor", Edges.BAD, new FireRows().nearest(0, 0, 0));
    }

    private void several() {
        e.terms("of several the least FIRE, then the least AGE.");
        FireRows x = Checks.world("floor 99 2 0;fire 10 0 0 0 1 0;fire 0 0 0 0 1 0;fire 10 0 0 0 1 50;house 0 0;" + STORY);
        x.hill(20, 0);
        nearest(x, "the least fire of three", 0, 0, 0, 5, 0, 1);
        x.hill(8, 0);
        nearest(x, "nearer by another fire", 1, 0, 1, 4, 0, 1);
        x.hill(21, 0);
        nearest(x, "the least fire, its least age", 2, 0, 0, 5, 1, 0);
        x.hill(5, 0);
        x.date(3, 0, 0);
        nearest(x, "midway, the least fire", 3, 0, 0, 0, 5, 0);
        FireRows y = Checks.world("floor 99 2 0;fire 0 0 0 0 1 0;fire 10 0 0 0 1 0;" + STORY);
        y.hill(20, 0);
        nearest(y, "the least fire, though its age is more", 0, 0, 0, 10, 0, 1);
        FireRows still = Checks.world("floor 1 0 0;" + Edges.FIRE + "house 0 5;" + STORY + "story late 1;");
        still.hill(3, 0);
        nearest(still, "all ages alike", 0, 0, 0, 0, 3, 0);
        still.date(0, 0, 50);
        nearest(still, "the least of its ends", 0, 0, 0, 45, 3, 0);
        nearest(still, "late, too", 0, 1, 0, 45, 3, 0);
    }

    private void fits() {
        e.terms("It FITS a STORY, if it is NEAREST by no more in x, and no more in y, than WIDE of that FIRE (of the crack).");
        FireRows x = Checks.world("floor 1 0 0;fire 0 0 0 0 1 3;fire 500 0 0 0 1 0;fire 1000 0 0 0 1 99;crack 0 0 0 0 4;"
            + "story stays 1;story crack 1;");
        int[][] places = {{3, 3}, {-3, -3}, {4, 0}, {0, 4}, {0, -4}, {4, 4}, {5, 0}, {500, 0}, {501, 0}, {1099, -99}, {1100, 0},
            {901, 99}};
        int[] fit = {1, 1, 0, 0, 0, 0, 0, 1, 0, 1, 0, 1};
        int[] crack = {1, 1, 1, 1, 1, 1, 0, 0, 0, 0, 0, 0};
        int bits = 0;
        int crackBits = 0;
        for (int h = 0; h < 12; h++) {
            x.hill(places[h][0], places[h][1]);
            e.due("hill " + h, fit[h], x.nearest(h, 0, 3));
            e.due("hill " + h + " by the crack", crack[h], x.nearest(h, 1, 3));
            bits |= fit[h] << h;
            crackBits |= crack[h] << h;
        }
        FireRows y = Checks.world("floor 1 0 0;fire 0 0 0 0 1 2;fire 9 0 0 0 1 9;" + STORY);
        y.hill(4, 0);
        nearest(y, "of that fire, though another reaches so far", 0, 0, 0, 0, 4, 0);
        e.promise(17, "HILLS (bits) that FIT a STORY.");
        e.due("all twelve are looked at", bits, x.fits(0));
        e.due("by the crack", crackBits, x.fits(1));
        FireRows all = Edges.rest(12);
        e.due("all twelve", 4095, all.fits(0));
        e.due("no hills", 0, Edges.rest(0).fits(0));
        e.promise(17, "BAD.");
        e.due("story 2", Edges.BAD, x.fits(2));
        e.due("story -1", Edges.BAD, x.fits(-1));
        e.due("no floor", Edges.BAD, new FireRows().fits(0));
    }

    private void odds() {
        e.terms("ODDS of a STORY: its ODDS, 3 times over for each HILL that FITS it; by the sum of these of all STORIES.");
        FireRows x = Checks.world("floor 1 0 0;fire 0 0 0 0 1 0;crack 9 9 0 0 0;story stays 9;story crack 1;story crack 2;story crack 4;");
        int weight = 9;
        for (int h = 0; h < 12; h++) {
            x.hill(0, 0);
            weight *= 3;
            e.due("above, with " + (h + 1), weight, x.odds(0, 0) * gcd(weight, weight + 7));
            e.due("below, with " + (h + 1), weight + 7, x.odds(0, 1) * gcd(weight, weight + 7));
            e.due("another one, above", 4, x.odds(3, 0) * gcd(4, weight + 7));
            e.due("another one, below", weight + 7, x.odds(3, 1) * gcd(4, weight + 7));
        }
        FireRows y = Checks.world("floor 1 0 0;fire 0 0 0 0 1 0;story stays 9;story wanders 9;story late 9;story stays 8;");
        for (int h = 0; h < 12; h++) {
            y.hill(0, 0);
        }
        e.due("the greatest there are, above", 9, y.odds(2, 0));
        e.due("below", 35, y.odds(2, 1));
        e.promise(18, "ODDS of a STORY: above (what = 0), below (1).");
        FireRows one = Edges.rest(0);
        e.due("one story", 1, one.odds(0, 0));
        e.due("by 1", 1, one.odds(0, 1));
        FireRows none = Checks.world("floor 1 0 0;fire 0 0 0 0 1 0;story stays 4;story late 6;");
        e.due("no hills, above", 2, none.odds(0, 0));
        e.due("no hills, below", 5, none.odds(0, 1));
        none.hill(0, 0);
        e.due("a hill that fits both", 3, none.odds(1, 0));
        e.due("leaves them alike", 5, none.odds(1, 1));
        e.promise(18, "BAD.");
        e.due("story 2", Edges.BAD, none.odds(2, 0));
        e.due("story -1", Edges.BAD, none.odds(-1, 0));
        e.due("what 2", Edges.BAD, none.odds(0, 2));
        e.due("what -1", Edges.BAD, none.odds(0, -1));
        e.due("no floor", Edges.BAD, new FireRows().odds(0, 0));
    }

    private static int gcd(int a, int b) {
        return b == 0 ? a : gcd(b, a % b);
    }

    private void belong() {
        e.promise(19, "HILLS (bits) NEAREST to a FIRE by a STORY that FIT it.");
        FireRows x = Checks.world("floor 1 0 0;fire 0 0 0 0 1 5;fire 0 0 0 0 1 9;fire 20 0 0 0 1 4;crack 20 0 0 0 0;"
            + "story stays 1;story crack 1;");
        int[] places = {0, 5, 6, 10, 15, 16, 20, 24, 25, 20, 0, 20};
        for (int place : places) {
            x.hill(place, 0);
        }
        e.due("fire 0", 1 | 2 | 1 << 10, x.belong(0, 0));
        e.due("fire 1 is never the least", 0, x.belong(0, 1));
        e.due("fire 2", 1 << 5 | 1 << 6 | 1 << 7 | 1 << 9 | 1 << 11, x.belong(0, 2));
        e.due("the crack", 1 << 6 | 1 << 9 | 1 << 11, x.belong(1, 0));
        e.due("no hills", 0, Edges.rest(0).belong(0, 0));
        e.due("all hills", 4095, Edges.rest(12).belong(0, 0));
        e.promise(19, "BAD (by a crack FIRE 0 alone).");
        e.due("fire 3", Edges.BAD, x.belong(0, 3));
        e.due("fire -1", Edges.BAD, x.belong(0, -1));
        e.due("a crack's fire 1", Edges.BAD, x.belong(1, 1));
        e.due("story 2", Edges.BAD, x.belong(2, 0));
        e.due("no floor", Edges.BAD, new FireRows().belong(0, 0));
    }

    private void made() {
        e.terms("MADE by a STORY, a FIRE, n (1 to 6): HILLS of AGES 0, EVERY, 2 EVERY .. as many as n, at those places (AGES up to 99).");
        for (int every : new int[] {1, 19, 20}) {
            FireRows x = Checks.world("floor 99 1 -2;fire 5 7 1 0 " + every + " 0;crack 3 4 9 -9 0;story wanders 1;story crack 1;");
            int come = every == 20 ? 5 : 6;
            e.due("six of every " + every, come, x.made(0, 0, 6));
            for (int k = 0; k < come; k++) {
                e.due("x of " + k, 5, x.told(k, 0));
                e.due("y of " + k, 7 - 2 * k * every, x.told(k, 1));
            }
            e.due("six by the crack", 2 * come, x.made(1, 0, 6));
            for (int k = 0; k < come; k++) {
                e.due("x of " + k + " by the crack", 3 + 9 * k * every, x.told(come + k, 0));
                e.due("y of " + k + " by the crack", 4 - 9 * k * every, x.told(come + k, 1));
            }
        }
        e.promise(20, "MADE: how many HILLS there are then.");
        FireRows x = Checks.world(FOUR);
        for (int n = 1; n <= 4; n++) {
            e.due(n + " more", n * (n + 1) / 2, x.made(3, 1, n));
        }
        e.due("they have no dates", 0, x.count(7));
        e.due("they have no needles", 0, x.count(8));
        e.ends(x, "they have no ends", 9, 0, 99, 0);
        e.promise(20, "BAD: STORY, FIRE (by a crack 0 alone, EVERY of FIRE 0), n; FULL: not room for all that are made.");
        e.due("story 4", Edges.BAD, x.made(4, 0, 1));
        e.due("fire 2", Edges.BAD, x.made(0, 2, 1));
        e.due("a crack's fire 1", Edges.BAD, x.made(2, 1, 1));
        e.due("n 0", Edges.BAD, x.made(0, 0, 0));
        e.due("n 7", Edges.BAD, x.made(0, 0, 7));
        e.due("n most", Edges.BAD, x.made(0, 0, Edges.MOST));
        e.due("n least", Edges.BAD, x.made(0, 0, Edges.LEAST));
        e.due("no floor", Edges.BAD, new FireRows().made(0, 0, 1));
        e.due("three where two have room", Edges.FULL, x.made(0, 0, 3));
        e.due("none came", 10, x.count(6));
        e.due("two by the crack", 12, x.made(2, 0, 2));
        e.due("EVERY of FIRE 0", 40, x.told(11, 0));
        e.due("one more", Edges.FULL, x.made(0, 0, 1));
        e.due("BAD ahead of FULL", Edges.BAD, x.made(0, 0, 7));
        FireRows y = Checks.world(FOUR);
        y.made(0, 1, 6);
        y.hill(0, 0);
        e.due("six are told, five are made: they have room", 12, y.made(0, 0, 6));
        FireRows z = Checks.world(FOUR);
        z.made(0, 1, 6);
        z.made(0, 1, 2);
        e.due("five have none", Edges.FULL, z.made(0, 0, 6));
        e.due("none of five came", 8, z.count(6));
    }

    private void bore() {
        e.terms("BORE: of HILLS without DATES that with the greatest difference of AGES of NEAREST by all STORIES, of several the least; NONE.");
        String text = "floor 99 1 0;fire 0 0 0 0 1 0;house 0 0;crack 0 0 2 0 0;story stays 1;story crack 1;story late 1;";
        FireRows x = Checks.world(text);
        x.hill(0, 0);
        e.due("by no difference", 0, x.bore());
        x.hill(0, 0);
        e.due("of several the least", 0, x.bore());
        x.hill(2, 0);
        e.due("by 1", 2, x.bore());
        x.hill(99, 0);
        e.due("by 50", 3, x.bore());
        x.hill(98, 0);
        e.due("by 49", 3, x.bore());
        x.hill(99, 0);
        e.due("of those by 50 the least", 3, x.bore());
        x.date(3, 0, 0);
        e.due("without dates", 5, x.bore());
        x.date(5, 0, 0);
        e.due("without dates, the next", 4, x.bore());
        FireRows far = Checks.world("floor 99 1 0;fire 0 0 0 0 1 0;crack 99 0 1 0 0;story stays 1;story crack 1;");
        far.hill(5, 5);
        far.hill(99, 0);
        e.due("by 99", 1, far.bore());
        FireRows old = Checks.world("floor 99 1 0;fire 0 0 0 0 1 0;crack 30 0 1 0 0;story stays 1;story crack 1;");
        old.hill(29, 0);
        old.hill(30, 0);
        old.hill(110, 0);
        old.hill(99, 0);
        e.due("by 30, though others are older", 1, old.bore());
        FireRows four = Checks.world("floor 99 1 0;fire 0 0 0 0 1 0;crack 9 0 0 0 0;story stays 1;story late 1;story stays 2;story crack 1;");
        four.hill(5, 0);
        four.hill(6, 0);
        e.due("by the last of four stories", 1, four.bore());
        Checks.read(four, "floor 99 1 0;fire 0 0 0 0 1 0;story stays 1;story late 1;story stays 2;");
        four.hill(5, 0);
        four.hill(6, 0);
        e.due("not by a story of the floor before", 0, four.bore());
        FireRows one = Edges.rest(12);
        e.due("one story", 0, one.bore());
        for (int h = 0; h < 11; h++) {
            one.date(h, 0, 0);
        }
        e.due("the last one", 11, one.bore());
        e.promise(32, "BORE; NONE.");
        one.date(11, 0, 0);
        e.due("all have dates", Edges.NONE, one.bore());
        e.due("no hills", Edges.NONE, Edges.rest(0).bore());
        e.promise(32, "STATE: no FLOOR.");
        e.due("no floor", Edges.STATE, new FireRows().bore());
    }

    private void next() {
        e.terms("NEXT of a FIRE: of HILLS that FIT STORY 0 and are NEAREST to it by that the one of the least upper end, of several "
            + "the least: a new one comes in EVERY less its upper end to EVERY less its lower end (each 0 at least);");
        FireRows x = Checks.world("floor 1 0 0;fire 0 0 0 0 20 5;fire 50 0 0 0 1 5;house 0 0;house 0 5;house 0 10;" + STORY + "story late 1;");
        x.hill(0, 0);
        comes(x, "no dates", 0, 0, 20);
        x.date(0, 1, 30);
        comes(x, "long ago", 0, 0, 0);
        x.hill(0, 0);
        x.date(1, 1, 20);
        comes(x, "15 to 25", 0, 0, 5);
        x.hill(0, 0);
        x.date(2, 1, 15);
        comes(x, "10 to 20", 0, 0, 10);
        x.hill(0, 0);
        x.date(3, 2, 10);
        comes(x, "of several the least: 10 to 20, not 0 to 20", 0, 0, 10);
        x.hill(6, 0);
        x.date(4, 0, 1);
        comes(x, "what does not fit comes not", 0, 0, 10);
        x.hill(5, 0);
        x.date(5, 0, 19);
        comes(x, "at its edge", 0, 1, 1);
        x.hill(0, 0);
        x.date(6, 0, 0);
        comes(x, "it came now", 0, 20, 20);
        x.hill(0, 0);
        x.date(7, 0, 5);
        comes(x, "a later hill that is older", 0, 20, 20);
        x.hill(50, 0);
        comes(x, "the other fire", 1, 0, 1);
        x.date(8, 0, 1);
        comes(x, "by 1 of 1", 1, 0, 0);
        FireRows first = Edges.rest(2);
        first.date(0, 0, 2);
        first.date(1, 0, 3);
        comes(first, "hill 0 of two", 0, 8, 8);
        e.terms("NONE: there is no such HILL.");
        FireRows none = Edges.rest(0);
        comes(none, "no hills", 0, Edges.NONE, Edges.NONE);
        none.hill(6, 0);
        comes(none, "none that fits", 0, Edges.NONE, Edges.NONE);
        FireRows two = Checks.world("floor 1 0 0;fire 0 0 0 0 9 5;fire 0 0 0 0 9 5;" + STORY);
        two.hill(0, 0);
        comes(two, "none of the greater fire", 1, Edges.NONE, Edges.NONE);
        FireRows other = Checks.world("floor 99 9 0;fire 0 0 0 0 9 0;house 0 0;story stays 1;story late 1;");
        other.hill(9, 0);
        other.date(0, 0, 0);
        comes(other, "one that fits another story alone", 0, Edges.NONE, Edges.NONE);
        e.promise(33, "NEXT of a FIRE: soonest (what = 0), latest (1); NONE.");
        FireRows late = Checks.world("floor 99 9 0;fire 0 0 0 0 9 0;house 0 1;story late 1;");
        late.hill(45, 0);
        late.date(0, 0, 2);
        comes(late, "by story 0 that is late, its ends", 0, 6, 8);
        FireRows again = Checks.world("floor 1 0 0;fire 0 0 0 0 20 0;house 0 0;house 0 1;" + STORY);
        again.hill(0, 0);
        again.date(0, 0, 2);
        again.date(0, 1, 9);
        comes(again, "again, by its ends", 0, 10, 12);
        e.promise(33, "BAD; STATE: STORY 0 is a crack.");
        e.due("fire 2", Edges.BAD, x.next(2, 0));
        e.due("fire -1", Edges.BAD, x.next(-1, 0));
        e.due("what 2", Edges.BAD, x.next(0, 2));
        e.due("what -1", Edges.BAD, x.next(0, -1));
        e.due("no floor", Edges.BAD, new FireRows().next(0, 0));
        FireRows crack = Checks.world("floor 1 0 0;fire 0 0 0 0 20 5;crack 0 0 0 0 0;story crack 1;" + STORY);
        e.due("a crack", Edges.STATE, crack.next(0, 0));
        e.due("BAD ahead of STATE, fire", Edges.BAD, crack.next(1, 0));
        e.due("BAD ahead of STATE, what", Edges.BAD, crack.next(0, 2));
        FireRows behind = Checks.world("floor 1 0 0;fire 0 0 0 0 20 5;crack 0 0 0 0 0;" + STORY + "story crack 1;");
        e.due("a crack, but not story 0", Edges.NONE, behind.next(0, 0));
    }

    private void comes(FireRows x, String of, int fire, int soonest, int latest) {
        e.due(of + ", soonest", soonest, x.next(fire, 0));
        e.due(of + ", latest", latest, x.next(fire, 1));
    }
}
