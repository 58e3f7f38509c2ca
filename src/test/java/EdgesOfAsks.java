/** Promises 36 to 40: kinds of hills, asks of them, their trace, counts. */
final class EdgesOfAsks {
    private static final int HILL = 0, DATED = 1, SURE = 2, TWICE = 3, BARE = 4, STRAY = 5;
    private final Edges e;

    EdgesOfAsks(Edges edges) {
        e = edges;
    }

    void run() {
        kinds();
        kind();
        as();
        asks();
        ask();
        trace();
        count();
    }

    /** Hills 0 to 5: bare, dated, sure, twice (its ends far apart), twice (its ends sharp), stray. */
    private static FireRows six() {
        FireRows x = Edges.rest(5);
        x.hill(6, 0);
        x.date(1, 1, 50);
        x.date(2, 0, 50);
        x.date(3, 0, 20);
        x.date(3, 1, 60);
        x.date(4, 1, 20);
        x.date(4, 0, 60);
        return x;
    }

    private void kinds() {
        e.terms("KINDS of HILLS: 0 HILL; 1 DATED, a HILL: it has DATES; 2 SURE, a DATED one: its ENDS are 2 apart at most; 3 TWICE, a DATED "
            + "one: AGAIN; 4 BARE, a HILL: no DATES; 5 STRAY, a BARE one: it FITS no STORY.");
        FireRows x = Checks.world("floor 99 1 0;fire 0 0 0 0 1 5;house 0 0;house 0 1;house 0 2;house 9 2;story stays 1;story late 1;");
        for (int h = 0; h < 12; h++) {
            x.hill(h < 10 ? 0 : h == 10 ? 104 : 105, 0);
        }
        x.date(0, 0, 50);
        e.due("0 apart", SURE, x.kind(0));
        x.date(1, 1, 50);
        e.due("2 apart", SURE, x.kind(1));
        x.date(2, 2, 50);
        e.due("4 apart", DATED, x.kind(2));
        x.date(2, 1, 52);
        e.due("51 to 52", SURE, x.kind(2));
        x.date(3, 2, 50);
        x.date(3, 2, 51);
        e.due("3 apart", DATED, x.kind(3));
        x.date(3, 2, 52);
        e.due("2 apart of three", SURE, x.kind(3));
        x.date(4, 3, 9);
        e.due("-2 to 2, cut to 0 to 2", SURE, x.kind(4));
        x.date(5, 3, 10);
        e.due("-1 to 3, cut to 0 to 3", DATED, x.kind(5));
        x.date(6, 2, 97);
        x.date(7, 2, 99);
        e.due("95 to 99", DATED, x.kind(6));
        e.due("97 to 101, cut to 97 to 99", SURE, x.kind(7));
        x.date(8, 0, 5);
        x.date(8, 0, 5);
        e.due("twice alike is sure", SURE, x.kind(8));
        x.date(8, 0, 6);
        e.due("nothing in all", TWICE, x.kind(8));
        e.due("no dates", BARE, x.kind(9));
        e.due("it fits at its edge", BARE, x.kind(10));
        e.due("it fits none", STRAY, x.kind(11));
        x.date(11, 0, 5);
        e.due("dated, though it fits none", SURE, x.kind(11));
        e.terms("It is told as TWICE, else SURE, else DATED, else STRAY, else BARE: by this it is asked.");
        FireRows y = six();
        int[] told = {BARE, DATED, SURE, TWICE, TWICE, STRAY};
        for (int h = 0; h < 6; h++) {
            e.due("hill " + h, told[h], y.kind(h));
        }
        FireRows last = Checks.world("floor 1 0 0;fire 0 0 0 0 1 0;crack 9 9 0 0 0;story stays 1;story wanders 1;story late 1;story crack 1;");
        last.hill(9, 9);
        last.hill(8, 9);
        e.due("it fits the last story alone", BARE, last.kind(0));
        e.due("it fits none of four", STRAY, last.kind(1));
    }

    private void kind() {
        e.promise(36, "The KIND of a HILL, as it is told (1 to 5).");
        FireRows x = Edges.rest(12);
        e.due("of the first", BARE, x.kind(0));
        e.due("of the last", BARE, x.kind(11));
        e.promise(36, "BAD.");
        e.due("hill 12", Edges.BAD, x.kind(12));
        e.due("hill -1", Edges.BAD, x.kind(-1));
        e.due("no hills", Edges.BAD, Edges.rest(0).kind(0));
        e.due("no floor", Edges.BAD, new FireRows().kind(0));
    }

    private void as() {
        e.promise(37, "A HILL is taken as one of a KIND (0 .. 5): its number.");
        FireRows x = six();
        int[][] taken = {{HILL, BARE}, {HILL, DATED}, {HILL, DATED, SURE}, {HILL, DATED, TWICE}, {HILL, DATED, TWICE}, {HILL, BARE, STRAY}};
        for (int h = 0; h < 6; h++) {
            for (int k : taken[h]) {
                e.due(h + " as " + k, h, x.as(h, k));
                e.statusIs(x, h + " as " + k, 0);
            }
        }
        e.promise(37, "BAD; KIND: it is not taken so.");
        for (int h = 0; h < 6; h++) {
            for (int k = 0; k < 6; k++) {
                boolean is = false;
                for (int t : taken[h]) {
                    is |= t == k;
                }
                if (!is) {
                    e.due(h + " as " + k, Edges.KIND, x.as(h, k));
                    e.statusIs(x, h + " as " + k, 3);
                }
            }
        }
        e.due("kind 6", Edges.BAD, x.as(0, 6));
        e.due("kind -1", Edges.BAD, x.as(0, -1));
        e.due("hill 6", Edges.BAD, x.as(6, 0));
        e.due("hill -1", Edges.BAD, x.as(-1, 0));
        e.due("no floor", Edges.BAD, new FireRows().as(0, 0));
    }

    private void asked(FireRows x, String of, int hill, int what, int want, int... trace) {
        e.due(of, want, x.ask(hill, what));
        for (int i = 0; i < 17; i++) {
            e.due(of + ", trace " + i, i < trace.length ? trace[i] : Edges.NONE, x.trace(i));
        }
    }

    private void asks() {
        e.terms("4 ASKS of HILLS, by BODIES, each of which leaves its number in THE TRACE as it begins (the first 16):");
        FireRows x = six();
        asked(x, "one body", 0, 0, 0, 10);
        asked(x, "five bodies", 5, 1, -12, 23, 22, 20, 14, 10);
        asked(x, "one body, none of the five is left", 0, 0, 0, 10);
        e.terms("0 SIZE: 10 lent to all HILLS: how many DATES.");
        asked(x, "of a bare one", 0, 0, 0, 10);
        e.terms("11 of DATED ones: what 10 gives, and its lower end.");
        asked(x, "one date, 45 to 55", 1, 0, 46, 11, 10);
        e.terms("12 of SURE ones: what 11 gives, twice.");
        asked(x, "one date, 50", 2, 0, 102, 12, 11, 10);
        e.terms("13 of TWICE ones: what 11 gives, less MARK.");
        asked(x, "two dates, 55 to 65", 3, 0, 2 + 55 - 103, 13, 11, 10, 21, 20);
        asked(x, "two dates, 60, not as a sure one", 4, 0, 2 + 60 - 104, 13, 11, 10, 21, 20);
        e.terms("14 of STRAY ones: what 10 gives, and 7.");
        asked(x, "of a stray one", 5, 0, 7, 14, 10);
        e.terms("1 MARK: 20 lent to all HILLS: its number.");
        asked(x, "of hill 0, by what 20 gives", 0, 1, 0, 22, 20, 10);
        e.terms("21 of DATED ones: what 20 gives, and 100.");
        asked(x, "of a dated one", 1, 1, 101, 21, 20);
        asked(x, "of a sure one, which has none of its own", 2, 1, 102, 21, 20);
        asked(x, "of one that is twice, which has none of its own", 3, 1, 103, 21, 20);
        e.terms("22 of BARE ones: what 20 gives, and SIZE.");
        FireRows y = Edges.rest(12);
        asked(y, "of the last hill", 11, 1, 11, 22, 20, 10);
        e.terms("23 of STRAY ones: 0 less what 22 gives.");
        asked(x, "its number and 7", 5, 1, -12, 23, 22, 20, 14, 10);
        FireRows stray = Edges.rest(0);
        stray.hill(6, 6);
        asked(stray, "hill 0", 0, 1, -7, 23, 22, 20, 14, 10);
        e.terms("(Of an ask the BODY told for the KIND begins, else that of the nearest KIND that it is, too, else the one that is lent; SIZE, "
            + "MARK within others are asked of the same HILL anew.)");
        asked(x, "told for it", 2, 0, 102, 12, 11, 10);
        asked(x, "of the nearest kind", 2, 1, 102, 21, 20);
        asked(x, "lent", 0, 0, 0, 10);
        asked(x, "SIZE within, of a bare one", 0, 1, 0, 22, 20, 10);
        asked(x, "SIZE within, of a stray one", 5, 1, -12, 23, 22, 20, 14, 10);
        asked(x, "MARK within, of one that is twice", 3, 0, -46, 13, 11, 10, 21, 20);
    }

    private void ask() {
        e.promise(38, "An ASK (0, 1) of a HILL.");
        FireRows x = Edges.rest(12);
        x.date(11, 0, 99);
        x.date(11, 0, 99);
        x.date(11, 0, 99);
        x.date(11, 0, 99);
        asked(x, "the greatest SIZE", 11, 0, 206, 12, 11, 10);
        asked(x, "the greatest MARK", 11, 1, 111, 21, 20);
        e.promise(38, "BAD.");
        e.due("ask 2", Edges.BAD, x.ask(11, 2));
        e.due("ask -1", Edges.BAD, x.ask(11, -1));
        e.due("hill 12", Edges.BAD, x.ask(12, 0));
        e.due("hill -1", Edges.BAD, x.ask(-1, 0));
        e.due("no floor", Edges.BAD, new FireRows().ask(0, 0));
        e.due("the trace stays", 21, x.trace(0));
        e.promise(38, "THE TRACE is empty ahead of it.");
        x.ask(0, 1);
        e.due("three", 10, x.trace(2));
        x.ask(0, 0);
        e.due("one", 10, x.trace(0));
        e.due("no second", Edges.NONE, x.trace(1));
        e.due("no third", Edges.NONE, x.trace(2));
    }

    private void trace() {
        e.promise(39, "Number i of THE TRACE; NONE.");
        FireRows x = six();
        e.due("ahead of an ask", Edges.NONE, x.trace(0));
        x.ask(3, 0);
        int[] numbers = {13, 11, 10, 21, 20};
        for (int i = 0; i < 5; i++) {
            e.due("number " + i, numbers[i], x.trace(i));
        }
        for (int i : new int[] {5, 15, 16, 17, -1, Edges.MOST, Edges.LEAST}) {
            e.due("number " + i, Edges.NONE, x.trace(i));
        }
        x.kind(5);
        x.as(5, 5);
        x.told(5, 0);
        Checks.read(x, Edges.REST);
        e.due("other calls leave it", 13, x.trace(0));
        e.due("other calls leave all of it", 20, x.trace(4));
    }

    private void count() {
        e.promise(40, "How many: 0 SHEETS, 1 'floor', 2 FIRES, 3 HOUSES, 4 whether there is a crack (1, 0), 5 STORIES, 6 HILLS, 7 DATES, "
            + "8 NEEDLES, 9 bytes on the tape.");
        FireRows x = new FireRows();
        for (int what = 0; what < 10; what++) {
            e.due("of nothing, " + what, 0, x.count(what));
        }
        Checks.read(x, Edges.FLOOR + Edges.FIRE + Edges.STORY);
        int[] least = {0, 1, 1, 0, 0, 1, 0, 0, 0, 0};
        for (int what = 0; what < 10; what++) {
            e.due("of the least floor, " + what, least[what], x.count(what));
        }
        Checks.read(x, "floor 1 0 0;floor 2 0 0;floor 3 0 0;floor 4 0 0;" + Edges.FIRE.repeat(4) + "house 0 0;".repeat(4)
            + "crack 0 0 0 0 0;" + Edges.STORY.repeat(4));
        for (int sheet = 0; sheet < 8; sheet++) {
            x.sheet(sheet, 0, 0);
        }
        for (int h = 0; h < 12; h++) {
            x.hill(0, 0);
            x.needle(h, 0, 0);
            for (int d = 0; d < 4; d++) {
                x.date(h, d, 0);
            }
        }
        Checks.feed(x, " ".repeat(500));
        int[] most = {8, 4, 4, 4, 1, 4, 12, 48, 12, 500};
        for (int what = 0; what < 10; what++) {
            e.due("of all there can be, " + what, most[what], x.count(what));
        }
        e.promise(40, "BAD.");
        e.due("what 10", Edges.BAD, x.count(10));
        e.due("what -1", Edges.BAD, x.count(-1));
        e.due("what most", Edges.BAD, x.count(Edges.MOST));
        e.due("what least", Edges.BAD, x.count(Edges.LEAST));
    }
}
