/** Each promise by its number: ordinary inputs, the edges that the document names, wrong inputs. */
final class PromisesTest {
    private static final int NONE = FireRows.NONE, BAD = FireRows.BAD, STATE = FireRows.STATE, FULL = FireRows.FULL;
    private static final int LEAST = Integer.MIN_VALUE, MOST = Integer.MAX_VALUE;
    private static final String SMALL = "floor 9 1 0;fire 0 0 0 0 1 0;story stays 1;";
    private static final String WIDE = "floor 10 -5 3;floor 30 -1 6;fire 100 50 0 1 4 6;fire -200 0 1 0 7 9;"
        + "house 0 1;house 3 2;house -2 0;crack 100 50 -5 3 4;"
        + "story stays 5;story wanders 3;story crack 2;story late 1;";
    /** A floor at rest, a fire at 0, 0 that reaches 5 far, a house that tells ages as they are. */
    private static final String REST = "floor 1 0 0;fire 0 0 0 0 10 5;house 0 0;house 0 5;story stays 1;";
    private static final Checks CHECKS = new Checks("PromisesTest");

    public static void main(String[] args) {
        p1();
        p2to5();
        p9p10();
        p11p12();
        p13p15();
        p14p28();
        p16();
        p17to19();
        p20();
        p21();
        p22p23();
        p24p25();
        p26();
        p27();
        p29();
        p30p31();
        p32();
        p33();
        p34p35();
        fullImage();
        p36p37();
        p38p39();
        p40();
        p41();
        CHECKS.end();
    }

    private static void due(String call, int want, int got) {
        CHECKS.due(call, want, got);
    }

    private static void p1() {
        FireRows x = new FireRows();
        for (int what = 0; what < 10; what++) {
            due("1 count " + what, 0, x.count(what));
        }
        due("1 fault", 0, x.fault());
        due("1 status", 0, x.status());
        due("1 trace", NONE, x.trace(0));
        due("1 no floor", STATE, x.hill(0, 0));
        for (int sheet = 0; sheet < 8; sheet++) {
            due("1 sheet is missing", Checks.NULL, x.drop(sheet));
        }
    }

    private static void p2to5() {
        FireRows x = new FireRows();
        due("2 none", 0, x.sheet(0, 0, 0));
        due("2 all", 40, x.sheet(7, 2, 40));
        due("2 too many", BAD, x.sheet(7, 2, 41));
        due("2 fewer than none", Checks.SIZE, x.sheet(7, 2, -1));
        due("2 least", Checks.SIZE, x.sheet(7, 2, LEAST));
        due("2 no sheet", BAD, x.sheet(8, 2, -1));
        due("2 no sheet below", BAD, x.sheet(-1, 2, 1));
        due("2 no lane", BAD, x.sheet(7, 3, -1));
        due("2 no lane below", BAD, x.sheet(7, -1, 1));
        due("2 it stays", 9, x.set(7, 39, 9));
        due("3 bytes", 3, x.sheet(1, 0, 3));
        due("3 byte", -128, x.set(1, 0, 128));
        due("3 byte above", 1, x.set(1, 1, 257));
        due("3 shorts", 3, x.sheet(2, 1, 3));
        due("3 short", -32768, x.set(2, 0, 32768));
        due("3 short above", -1, x.set(2, 1, 65535));
        due("3 int", LEAST, x.set(7, 0, LEAST));
        due("3 no sheet", BAD, x.set(8, 0, 0));
        due("3 missing", Checks.NULL, x.set(3, 99, 0));
        due("3 below", Checks.PLACE, x.set(1, -1, 0));
        due("3 beyond", Checks.PLACE, x.set(1, 3, 0));
        due("3 none there", Checks.PLACE, x.set(0, 0, 0));
        copies(Checks.world(REST));
        sheetAnew(Checks.world(REST));
        due("5 no sheet", BAD, x.drop(-1));
        due("5 no sheet above", BAD, x.drop(8));
        due("5 missing", Checks.NULL, x.drop(3));
        due("5 how many", 40, x.drop(7));
        due("5 missing now", Checks.NULL, x.drop(7));
        due("5 none", 0, x.drop(0));
        due("5 how many are left", 2, x.count(0));
    }

    private static void sheetAnew(FireRows x) {
        Checks.fill(x, 0, 7, 8, 9, 6);
        due("2 in place", 2, x.sheet(0, 0, 2));
        due("2 fewer items", Checks.PLACE, x.set(0, 2, 1));
        due("2 as hills", 1, x.hills(0, 0, 1));
        due("2 first is 0", 0, x.told(0, 0));
        due("2 second is 0", 0, x.told(0, 1));
        due("2 first sheet counts", 1, x.count(0));
    }

    private static void copies(FireRows x) {
        Checks.fill(x, 0, 1, 2, 3, 4, 5, 6);
        due("4 over itself", 4, x.copy(0, 0, 0, 2, 4));
        due("4 hills", 3, x.hills(0, 0, 3));
        int[] want = {1, 2, 1, 2, 3, 4};
        for (int i = 0; i < 6; i++) {
            due("4 as they were ahead", want[i], x.told(i / 2, i % 2));
        }
        Checks.fill(x, 1, 0, 0);
        x.sheet(2, 1, 2);
        due("4 no sheet", BAD, x.copy(8, 0, 3, 0, 0));
        due("4 no sheet b", BAD, x.copy(3, 0, -1, 0, 0));
        due("4 missing a", Checks.NULL, x.copy(3, -1, 2, 0, 0));
        due("4 missing b", Checks.NULL, x.copy(2, -1, 3, 0, 0));
        due("4 lanes ahead of places", Checks.STORE, x.copy(0, -1, 2, 0, 0));
        due("4 i below", Checks.PLACE, x.copy(0, -1, 1, 0, 1));
        due("4 j below", Checks.PLACE, x.copy(0, 0, 1, -1, 1));
        due("4 n below", Checks.PLACE, x.copy(0, 0, 1, 0, -1));
        due("4 beyond a", Checks.PLACE, x.copy(0, 5, 1, 0, 2));
        due("4 beyond b", Checks.PLACE, x.copy(0, 0, 1, 1, 2));
        due("4 far beyond", Checks.PLACE, x.copy(0, MOST, 1, 0, MOST));
        due("4 none at the end", 0, x.copy(0, 6, 1, 2, 0));
        due("4 none beyond the end", Checks.PLACE, x.copy(0, 7, 1, 0, 0));
        due("4 none beyond b's end", Checks.PLACE, x.copy(0, 0, 1, 3, 0));
        due("4 all", 2, x.copy(0, 4, 1, 0, 2));
        due("4 come to b", 4, x.hills(1, 0, 1));
        due("4 first", 3, x.told(3, 0));
        due("4 second", 4, x.told(3, 1));
    }

    private static void p9p10() {
        FireRows x = Checks.world(WIDE);
        int[] ages = {0, 10, 11, 30, 31, 99};
        int[] driftX = {0, -50, -51, -70, -71, -139};
        int[] driftY = {0, 30, 36, 150, 156, 564};
        for (int i = 0; i < ages.length; i++) {
            due("9 x of " + ages[i], driftX[i], x.drift(ages[i], 0));
            due("9 y of " + ages[i], driftY[i], x.drift(ages[i], 1));
        }
        due("9 age below", BAD, x.drift(-1, 0));
        due("9 age above", BAD, x.drift(100, 0));
        due("9 what", BAD, x.drift(0, 2));
        due("9 what below", BAD, x.drift(0, -1));
        due("9 no floor", STATE, new FireRows().drift(99, 1));
        due("9 bad ahead of state", BAD, new FireRows().drift(99, 2));
        due("10 stays", 100 - 51, x.where(0, 0, 11, 0));
        due("10 stays y", 50 + 36, x.where(0, 0, 11, 1));
        due("10 wanders", -200 - 11 - 51, x.where(1, 1, 11, 0));
        due("10 wanders y", 50 - 11 + 36, x.where(1, 0, 11, 1));
        due("10 crack", 100 - 55, x.where(2, 0, 11, 0));
        due("10 crack y", 50 + 33, x.where(2, 0, 11, 1));
        due("10 late", -251, x.where(3, 1, 11, 0));
        due("10 fire of a crack", BAD, x.where(2, 1, 0, 0));
        due("10 no fire", BAD, x.where(0, 2, 0, 0));
        due("10 no fire below", BAD, x.where(0, -1, 0, 0));
        due("10 no story", BAD, x.where(4, 0, 0, 0));
        due("10 no story below", BAD, x.where(-1, 0, 0, 0));
        due("10 age", BAD, x.where(0, 0, 100, 0));
        due("10 what", BAD, x.where(0, 0, 0, 2));
        due("10 no floor", BAD, new FireRows().where(0, 0, 0, 0));
    }

    private static void p11p12() {
        FireRows x = Checks.world(SMALL);
        due("11 farthest", 0, x.hill(99999, -99999));
        due("11 x beyond", BAD, x.hill(100000, 0));
        due("11 y beyond", BAD, x.hill(0, -100000));
        due("11 told x", 99999, x.told(0, 0));
        due("11 told y", -99999, x.told(0, 1));
        Checks.fill(x, 0, 0, 1, 2, 3, 4, 100000);
        due("12 one", 2, x.hills(0, 1, 1));
        due("12 x", 1, x.told(1, 0));
        due("12 y", 2, x.told(1, 1));
        due("12 an item", BAD, x.hills(0, 0, 3));
        due("12 nothing came", 2, x.count(6));
        due("12 an item behind is not looked at", 4, x.hills(0, 1, 2));
        Checks.read(x, SMALL);
        x.hill(0, 0);
        x.hill(0, 0);
        due("12 no sheet", BAD, x.hills(8, 0, 1));
        due("12 n", BAD, x.hills(0, 0, 0));
        due("12 n above", BAD, x.hills(0, 0, 13));
        due("12 missing", Checks.NULL, x.hills(1, 0, 12));
        due("12 below", Checks.PLACE, x.hills(0, -1, 1));
        due("12 beyond", Checks.PLACE, x.hills(0, 1, 3));
        due("12 far beyond", Checks.PLACE, x.hills(0, MOST, 12));
        due("12 no floor", STATE, new FireRows().hills(0, 0, 1));
        x.sheet(2, 0, 24);
        due("12 not room for all", FULL, x.hills(2, 0, 11));
        due("12 none came", 2, x.count(6));
        due("12 the rest", 12, x.hills(2, 4, 10));
        due("12 full, but an item", BAD, x.hills(0, 0, 3));
        due("12 full, but a finding", Checks.PLACE, x.hills(0, 5, 1));
        due("11 full", FULL, x.hill(0, 0));
        due("11 bad ahead of full", BAD, x.hill(0, 100000));
    }

    private static void ends(FireRows x, String of, int hill, int lower, int upper, int again) {
        due(of + " lower", lower, x.told(hill, 3));
        due(of + " upper", upper, x.told(hill, 4));
        due(of + " again", again, x.told(hill, 5));
    }

    private static void p13p15() {
        FireRows x = Checks.world("floor 1 0 0;fire 0 0 0 0 1 0;house 9 20;house -9 0;house 2 1;story stays 1;");
        x.hill(3, -4);
        ends(x, "15 no dates", 0, 0, 99, 0);
        due("13 how many", 1, x.date(0, 0, 5));
        ends(x, "15 from 0", 0, 0, 16, 0);
        x.hill(0, 0);
        due("13 old", 1, x.date(1, 1, 95));
        ends(x, "15 to 99", 1, 99, 99, 0);
        due("13 another house", 2, x.date(0, 2, 10));
        ends(x, "15 both", 0, 7, 9, 0);
        due("13 a third", 3, x.date(0, 1, 0));
        ends(x, "15 meet in one", 0, 9, 9, 0);
        due("13 a fourth", 4, x.date(0, 2, 13));
        ends(x, "15 nothing in all", 0, 10, 12, 1);
        due("13 a fifth", FULL, x.date(0, 0, 0));
        due("13 bad ahead of full", BAD, x.date(0, 0, 100));
        due("13 v below", BAD, x.date(1, 0, -1));
        due("13 no house", BAD, x.date(1, 3, 0));
        due("13 no house below", BAD, x.date(1, -1, 0));
        due("13 no hill", BAD, x.date(2, 0, 0));
        due("13 no hill below", BAD, x.date(-1, 0, 0));
        x.hill(0, 0);
        x.date(2, 2, 0);
        x.date(2, 0, 59);
        x.date(2, 2, 33);
        ends(x, "15 of several the first", 2, 30, 70, 1);
        int[] told = {3, -4, 4, 10, 12, 1, 0};
        for (int what = 0; what < 7; what++) {
            due("15 what " + what, told[what], x.told(0, what));
        }
        due("15 what above", BAD, x.told(0, 7));
        due("15 what below", BAD, x.told(0, -1));
        due("15 no hill", BAD, x.told(3, 0));
        due("15 no hill below", BAD, x.told(-1, 0));
    }

    private static void p14p28() {
        FireRows x = Checks.world(SMALL);
        x.hill(0, 0);
        x.hill(0, 0);
        x.hill(0, 0);
        due("14 one", 1, x.needle(0, -99999, 0));
        due("14 in place", 1, x.needle(0, 100, 7));
        due("14 how many", 1, x.count(8));
        due("14 another", 1, x.needle(1, 99999, 999));
        due("14 it has one", 1, x.told(1, 6));
        due("14 it has none", 0, x.told(2, 6));
        due("14 s above", BAD, x.needle(0, 0, 1000));
        due("14 s below", BAD, x.needle(0, 0, -1));
        due("14 y above", BAD, x.needle(0, 100000, 0));
        due("14 y below", BAD, x.needle(0, -100000, 0));
        due("14 no hill", BAD, x.needle(3, 0, 0));
        due("28 at least", 100 - 7 - 99999 - 999, x.wandered(0, 1, 0));
        due("28 at most", 100 + 7 - 99999 + 999, x.wandered(0, 1, 1));
        due("28 the other way", 99999 - 999 - 107, x.wandered(1, 0, 0));
        due("28 none", NONE, x.wandered(0, 2, 0));
        due("28 none for the first", NONE, x.wandered(2, 0, 1));
        due("28 alike", BAD, x.wandered(1, 1, 0));
        due("28 no hill", BAD, x.wandered(0, 3, 0));
        due("28 no hill below", BAD, x.wandered(-1, 0, 0));
        due("28 what", BAD, x.wandered(0, 2, 2));
    }

    private static void nearest(FireRows x, String of, int hill, int story, int... want) {
        for (int what = 0; what < 4; what++) {
            due(of + " " + what, want[what], x.nearest(hill, story, what));
        }
    }

    private static void p16() {
        FireRows x = Checks.world("floor 9 2 0;fire 0 0 0 1 5 3;fire 4 0 0 0 5 2;house 0 2;crack 0 9 1 0 2;"
            + "story stays 1;story wanders 1;story crack 1;story late 1;");
        x.hill(14, 0);
        nearest(x, "16 least fire", 0, 0, 0, 7, 0, 1);
        nearest(x, "16 crack", 0, 2, 0, 14, 9, 0);
        x.date(0, 0, 3);
        nearest(x, "16 within ends", 0, 0, 1, 5, 0, 1);
        nearest(x, "16 late goes on", 0, 3, 0, 7, 0, 1);
        nearest(x, "16 crack within ends", 0, 2, 0, 5, 18, 0);
        x.hill(9, 0);
        nearest(x, "16 of several the least age", 1, 0, 0, 4, 1, 1);
        x.hill(0, 3);
        nearest(x, "16 wide of that fire", 2, 0, 0, 0, 3, 1);
        x.hill(4, 3);
        nearest(x, "16 x and y each", 3, 0, 0, 2, 3, 1);
        x.hill(-4, 0);
        nearest(x, "16 beyond", 4, 0, 0, 0, 4, 0);
        x.hill(-3, -3);
        nearest(x, "16 at its edges", 5, 0, 0, 0, 6, 1);
        x.hill(20, -10);
        nearest(x, "16 wanders", 6, 1, 0, 10, 0, 1);
        due("16 no hill", BAD, x.nearest(7, 0, 0));
        due("16 no hill below", BAD, x.nearest(-1, 0, 0));
        due("16 no story", BAD, x.nearest(0, 4, 0));
        due("16 what", BAD, x.nearest(0, 0, 4));
        due("16 what below", BAD, x.nearest(0, 0, -1));
    }

    private static void p17to19() {
        FireRows x = Checks.world("floor 9 0 0;fire 0 0 0 0 5 2;fire 10 0 0 0 5 2;crack 10 0 0 0 0;"
            + "story stays 2;story crack 4;story wanders 9;");
        due("17 no hills", 0, x.fits(0));
        due("18 no hills above", 2, x.odds(0, 0));
        due("18 no hills below", 15, x.odds(0, 1));
        due("18 lowest terms", 3, x.odds(2, 0));
        due("18 lowest terms below", 5, x.odds(2, 1));
        x.hill(0, 0);
        x.hill(10, 0);
        x.hill(5, 0);
        x.hill(11, 1);
        due("17 bits", 1 + 2 + 8, x.fits(0));
        due("17 of a crack", 2, x.fits(1));
        due("18 above, 54 by 309", 18, x.odds(0, 0));
        due("18 below, 54 by 309", 103, x.odds(0, 1));
        due("18 crack above", 4, x.odds(1, 0));
        due("18 crack below", 103, x.odds(1, 1));
        due("19 fire 0", 1, x.belong(0, 0));
        due("19 fire 1", 2 + 8, x.belong(0, 1));
        due("19 crack", 2, x.belong(1, 0));
        due("19 fire of a crack", BAD, x.belong(1, 1));
        due("19 no fire", BAD, x.belong(0, 2));
        due("19 no fire below", BAD, x.belong(0, -1));
        due("19 no story", BAD, x.belong(3, 0));
        due("17 no story", BAD, x.fits(3));
        due("17 no story below", BAD, x.fits(-1));
        due("18 no story", BAD, x.odds(3, 0));
        due("18 what", BAD, x.odds(0, 2));
    }

    private static void p20() {
        FireRows x = Checks.world("floor 9 1 2;fire 0 0 0 0 20 2;fire 5 5 1 1 11 2;crack 7 7 3 4 0;"
            + "story stays 2;story crack 4;story wanders 9;");
        due("20 n", BAD, x.made(0, 0, 0));
        due("20 n above", BAD, x.made(0, 0, 7));
        due("20 no story", BAD, x.made(3, 0, 1));
        due("20 no fire", BAD, x.made(0, 2, 1));
        due("20 fire of a crack", BAD, x.made(1, 1, 1));
        due("20 crack by fire 0", 2, x.made(1, 0, 2));
        due("20 crack x", 7 + 60, x.told(1, 0));
        due("20 crack y", 7 + 80, x.told(1, 1));
        due("20 wanders", 8, x.made(2, 1, 6));
        due("20 wanders x", 5 - 55 + 55, x.told(7, 0));
        due("20 wanders y", 5 - 55 + 110, x.told(7, 1));
        due("20 ages up to 99 alone, no room", FULL, x.made(0, 0, 5));
        due("20 none came", 8, x.count(6));
        due("20 room for all that are made", 12, x.made(2, 0, 4));
        due("20 full", FULL, x.made(0, 0, 1));
        due("20 bad ahead of full", BAD, x.made(0, 0, 7));
        FireRows y = Checks.world("floor 9 1 2;fire 0 0 0 0 20 2;story stays 2;");
        due("20 five of six", 5, y.made(0, 0, 6));
        due("20 oldest", 80, y.told(4, 0));
        due("20 no dates", 0, y.count(7));
    }

    private static void pace(FireRows x, String of, int a, int b, int... want) {
        for (int what = 0; what < 4; what++) {
            due(of + " " + what, want[what], x.pace(a, b, what));
        }
    }

    private static void p21() {
        FireRows x = Checks.world(REST);
        x.hill(0, 0);
        x.hill(-10, 20);
        x.hill(0, 0);
        x.date(0, 1, 20);
        x.date(1, 1, 40);
        pace(x, "21", 1, 0, 1, 1, 3, 1);
        pace(x, "21 the younger one first", 0, 1, NONE, NONE, NONE, NONE);
        pace(x, "21 not surely", 0, 2, 0, 1, NONE, NONE);
        x.date(2, 0, 25);
        pace(x, "21 alike at most by 0", 0, 2, NONE, NONE, NONE, NONE);
        pace(x, "21 least by 0", 2, 0, 0, 1, NONE, NONE);
        x.hill(99999, 99999);
        x.hill(-99999, -99999);
        x.date(3, 0, 99);
        x.date(4, 0, 0);
        pace(x, "21 farthest", 3, 4, 44444, 11, 44444, 11);
        due("21 alike", BAD, x.pace(0, 0, 0));
        due("21 no hill", BAD, x.pace(0, 5, 0));
        due("21 no hill below", BAD, x.pace(-1, 0, 0));
        due("21 what", BAD, x.pace(0, 1, 4));
        due("21 what below", BAD, x.pace(0, 1, -1));
    }

    private static void refusalsOfRows(String of, int call, int least) {
        FireRows x = new FireRows();
        due(of + " no sheet", BAD, row(x, call, 8, 0, least));
        due(of + " no sheet below", BAD, row(x, call, -1, 0, least));
        due(of + " n below", BAD, row(x, call, 0, 0, least - 1));
        due(of + " n above", BAD, row(x, call, 0, 0, 13));
        due(of + " no hills, no floor", STATE, row(x, call, 0, 0, least));
        Checks.read(x, REST);
        due(of + " no hills", STATE, row(x, call, 0, 0, 12));
        x.hill(0, 0);
        x.hill(1, 0);
        x.hill(2, 0);
        due(of + " missing", Checks.NULL, row(x, call, 0, -1, 12));
        Checks.fill(x, 0, 2, 0, 1, 1, 3, -1);
        due(of + " below", Checks.PLACE, row(x, call, 0, -1, 3));
        due(of + " beyond", Checks.PLACE, row(x, call, 0, 4, 3));
        due(of + " far beyond", Checks.PLACE, row(x, call, 0, MOST, 12));
        due(of + " status", 2, x.status());
        due(of + " twice", BAD, row(x, call, 0, 1, 3));
        Checks.fill(x, 1, 0, 1, 3);
        due(of + " next to the last hill", BAD, row(x, call, 1, 0, 3));
        x.set(1, 2, -1);
        due(of + " ahead of the first hill", BAD, row(x, call, 1, 0, 3));
        due(of + " beyond once more", Checks.PLACE, row(x, call, 0, 4, 3));
        due(of + " no such hill", BAD, row(x, call, 0, 2, 3));
        due(of + " no such hill below", BAD, row(x, call, 0, 3, 3));
        due(of + " status stays", 2, x.status());
        int answer = row(x, call, 0, 0, 3);
        due(of + " a row", call == 0 ? 1 : call == 3 ? 0 : NONE, answer);
        due(of + " status of a row", 0, x.status());
    }

    private static int row(FireRows x, int call, int sheet, int i, int n) {
        return call == 0 ? x.even(sheet, i, n) : call == 1 ? x.bend(sheet, i, n)
            : call == 2 ? x.people(sheet, i, n) : x.against(sheet, i, n);
    }

    private static void p22p23() {
        refusalsOfRows("22", 0, 2);
        refusalsOfRows("23", 1, 3);
        FireRows x = Checks.world(REST);
        int[] places = {0, 10, 20, 30, 40, 50};
        int[] ages = {0, 10, 20, 35, 50, 65};
        for (int h = 0; h < 6; h++) {
            x.hill(places[h], 0);
            x.date(h, 0, ages[h]);
        }
        Checks.fill(x, 0, 0, 1, 2, 3, 4, 5, 2, 1, 0);
        due("22 two are even", 1, x.even(0, 0, 2));
        due("22 even", 1, x.even(0, 0, 3));
        due("22 not even", 0, x.even(0, 0, 4));
        due("22 even from elsewhere", 1, x.even(0, 2, 4));
        due("22 even backward", 1, x.even(0, 6, 3));
        due("23 bends", 2, x.bend(0, 0, 6));
        due("23 the least", 1, x.bend(0, 1, 3));
        due("23 even", NONE, x.bend(0, 2, 4));
        x.hill(0, 60);
        x.date(6, 0, 0);
        x.hill(0, -60);
        x.date(7, 0, 1);
        Checks.fill(x, 1, 0, 6, 7, 1);
        due("22 alike far, other dates", 0, x.even(1, 0, 3));
        due("23 from the bend on", 1, x.bend(1, 0, 3));
        due("23 there is none", NONE, bendless());
        spans();
    }

    private static int bendless() {
        FireRows x = Checks.world(REST);
        int[] ages = {0, 20, 0, 20, 0};
        for (int h = 0; h < 5; h++) {
            x.hill(h, 0);
            x.date(h, 0, ages[h]);
        }
        Checks.fill(x, 0, 0, 1, 2, 3, 4);
        return x.bend(0, 0, 5);
    }

    /** Only a line that is no whole number anywhere goes through all spans. */
    private static void spans() {
        FireRows x = Checks.world("floor 1 0 0;fire 0 0 0 0 1 0;house 0 0;house 0 1;story stays 1;");
        x.hill(0, 0);
        x.hill(3, 0);
        x.hill(7, 0);
        x.hill(14, 0);
        x.date(0, 0, 10);
        x.date(1, 1, 11);
        x.date(2, 0, 11);
        x.date(3, 0, 12);
        Checks.fill(x, 0, 0, 1, 2, 3);
        due("22 by a seventh", 1, x.even(0, 0, 4));
        x.date(1, 0, 11);
        due("22 not by three sevenths", 0, x.even(0, 0, 4));
    }

    private static void p24p25() {
        refusalsOfRows("24", 2, 1);
        refusalsOfRows("25", 3, 2);
        FireRows x = Checks.world(REST);
        int[] ages = {50, 40, 30, 60, 30};
        for (int h = 0; h < 5; h++) {
            x.hill(0, 0);
            x.date(h, 0, ages[h]);
        }
        x.hill(0, 0);
        x.hill(0, 0);
        x.date(6, 1, 45);
        Checks.fill(x, 0, 0, 1, 2, 4, 5, 3, 6, 1);
        due("24 one", NONE, x.people(0, 0, 1));
        due("24 as said", NONE, x.people(0, 0, 5));
        due("24 the first", 5, x.people(0, 0, 6));
        due("24 from elsewhere", 3, x.people(0, 2, 5));
        due("25 as said", 0, x.against(0, 0, 5));
        due("25 older than all but one", 4, x.against(0, 0, 6));
        due("25 surely alone", 4 + 2, x.against(0, 0, 7));
        due("25 from elsewhere", 2 + 2 + 2, x.against(0, 2, 6));
    }

    private static void p26() {
        FireRows x = Checks.world("floor 9 -5 3;fire 0 0 0 0 5 2;fire 1000 0 0 0 5 2;house 0 0;house 0 20;story late 1;");
        due("26 no hills", NONE, x.turn(0));
        x.hill(70, -30);
        due("26 no dates", NONE, x.turn(2));
        x.date(0, 0, 10);
        due("26 vx", 7, x.turn(0));
        due("26 vy", -3, x.turn(1));
        due("26 off", 0, x.turn(2));
        x.hill(1035, -15);
        x.date(1, 0, 5);
        due("26 both fires", 0, x.turn(2));
        x.hill(500, 0);
        x.date(2, 0, 0);
        due("26 now", 500, x.turn(2));
        due("26 what", BAD, x.turn(3));
        due("26 what below", BAD, x.turn(-1));
        due("26 bad ahead of state", BAD, new FireRows().turn(3));
        due("26 no floor", STATE, new FireRows().turn(2));
        FireRows y = Checks.world("floor 9 -5 3;fire 0 0 0 0 5 2;house 0 0;house 0 20;story late 1;");
        y.hill(0, 0);
        y.date(0, 0, 0);
        due("26 of several the least vx", -20, y.turn(0));
        due("26 of several the least vy", -20, y.turn(1));
        y.hill(9, 2000);
        y.date(1, 1, 99);
        y.date(1, 0, 82);
        y.date(1, 1, 82);
        due("26 beyond the fastest", 20, y.turn(1));
        due("26 least x", 0, y.turn(0));
        due("26 off by the rest", 9 + 2000 - 20 * 82, y.turn(2));
        midst();
    }

    private static void midst() {
        FireRows x = Checks.world("floor 9 -5 3;fire 0 0 0 0 5 2;house 0 20;house 0 1;story late 1;");
        x.hill(30, 0);
        x.date(0, 0, 1);
        due("26 midst of 0 and 21, cut", 3, x.turn(0));
        due("26 hits it", 0, x.turn(2));
        FireRows y = Checks.world("floor 9 -5 3;fire 0 0 0 0 5 2;house 0 0;story late 1;");
        y.hill(500, -500);
        y.date(0, 0, 10);
        due("26 fastest x", 20, y.turn(0));
        due("26 fastest y", -20, y.turn(1));
        due("26 by the rest", 600, y.turn(2));
    }

    private static void p27() {
        FireRows x = Checks.world("floor 9 0 7;fire 0 100 0 2 5 2;house 0 0;crack 0 0 0 0 0;"
            + "story stays 1;story wanders 1;story crack 1;story late 1;");
        due("27 no hills", 0, x.says(0));
        x.hill(0, 0);
        x.date(0, 0, 10);
        due("27 no needles", 0, x.says(0));
        x.needle(0, 103, 3);
        due("27 stays", 1, x.says(0));
        due("27 not wanders", 0, x.says(1));
        x.needle(0, 77, 3);
        due("27 wanders", 1, x.says(1));
        due("27 not stays", 0, x.says(0));
        x.needle(0, 76, 3);
        due("27 beyond", 0, x.says(1));
        x.needle(0, 84, 3);
        due("27 beyond the other way", 0, x.says(1));
        x.needle(0, 90, 10);
        due("27 both", 2, x.says(0) + x.says(1));
        due("27 crack", BAD, x.says(2));
        due("27 late", BAD, x.says(3));
        due("27 no story", BAD, x.says(4));
        due("27 no story below", BAD, x.says(-1));
    }

    private static void p29() {
        FireRows x = Checks.world("floor 9 0 7;fire 0 0 0 2 5 2;house 5 1;house 0 2;house 0 0;story stays 1;");
        x.hill(0, 0);
        due("29 no such hill", NONE, x.leans(0, 1, 0));
        x.date(0, 0, 30);
        due("29 one of both alone", NONE, x.leans(0, 1, 1));
        x.date(0, 1, 24);
        x.date(0, 0, 90);
        x.date(0, 1, 1);
        due("29 from", 3, x.leans(0, 1, 0));
        due("29 to", 9, x.leans(0, 1, 1));
        due("29 the other way", -9, x.leans(1, 0, 0));
        x.hill(0, 0);
        x.date(1, 1, 0);
        x.date(1, 0, 1);
        due("29 in all", 3, x.leans(0, 1, 0));
        due("29 in all to", 4, x.leans(0, 1, 1));
        due("29 the other way, in all", -4, x.leans(1, 0, 0));
        x.hill(0, 0);
        x.date(2, 1, 4);
        x.date(2, 0, 3);
        due("29 nothing", NONE, x.leans(0, 1, 0));
        due("29 nothing to", NONE, x.leans(0, 1, 1));
        x.image(0);
        Checks.read(x, "floor 9 0 7;fire 0 0 0 2 5 2;house 5 1;house 0 2;story stays 1;");
        due("29 hills of the floor before", NONE, x.leans(0, 1, 0));
        x.restore(0);
        due("29 alike", BAD, x.leans(1, 1, 0));
        due("29 no house", BAD, x.leans(0, 3, 0));
        due("29 no house below", BAD, x.leans(-1, 0, 0));
        due("29 what", BAD, x.leans(0, 1, 2));
    }

    private static void p30p31() {
        due("30 no floor", STATE, new FireRows().orders());
        due("31 no floor", STATE, new FireRows().chance());
        FireRows x = Checks.world(REST);
        due("30 no hills", STATE, x.orders());
        due("31 no hills", 0, x.chance());
        x.hill(-99999, -99999);
        due("30 one", 1, x.orders());
        x.hill(99999, 99998);
        due("30 two", 2, x.orders());
        due("31 two", 0, x.chance());
        x.hill(0, 0);
        due("31 nearly on a line", 0, x.chance());
        x.hill(99999, 99999);
        due("31 on a line", 1, x.chance());
        x.hill(0, 0);
        due("31 places alike", 1 + 1 + 3, x.chance());
        due("30 five", 120, x.orders());
        x.date(0, 0, 50);
        x.date(1, 0, 50);
        due("30 alike are not older", 120, x.orders());
        x.date(2, 1, 44);
        due("30 one is younger than two", 40, x.orders());
        x.date(3, 1, 45);
        due("30 at its edge it is not", 40, x.orders());
        for (int h = 5; h < 12; h++) {
            x.hill(h * h, h);
        }
        due("30 twelve", 479001600 / 3, x.orders());
        for (int h = 4; h < 12; h++) {
            x.date(h, 0, h);
        }
        due("30 all dated", 4 * 2, x.orders());
    }

    private static void p32() {
        due("32 no floor", STATE, new FireRows().bore());
        FireRows x = Checks.world("floor 99 1 0;fire 0 0 -1 0 5 2;house 0 0;story stays 1;story wanders 1;");
        due("32 no hills", NONE, x.bore());
        x.hill(0, 0);
        x.hill(20, 0);
        x.hill(40, 0);
        x.hill(41, 0);
        x.date(0, 0, 1);
        due("32 the greatest", 3, x.bore());
        x.date(3, 0, 1);
        due("32 without dates", 2, x.bore());
        x.hill(40, 0);
        due("32 of several the least", 2, x.bore());
        x.date(2, 0, 1);
        x.date(4, 0, 1);
        due("32 one is left", 1, x.bore());
        x.date(1, 0, 1);
        due("32 none", NONE, x.bore());
    }

    private static void p33() {
        FireRows x = Checks.world("floor 99 1 0;fire 0 0 0 0 10 2;fire 500 0 0 0 20 2;house 0 1;house 0 3;"
            + "crack 0 0 0 0 0;story stays 1;story crack 1;");
        due("33 no hills", NONE, x.next(0, 0));
        x.hill(5, 50);
        x.date(0, 0, 1);
        due("33 it does not fit", NONE, x.next(0, 0));
        x.hill(7, 0);
        x.date(1, 1, 7);
        due("33 soonest", 0, x.next(0, 0));
        due("33 latest", 6, x.next(0, 1));
        x.hill(8, 0);
        x.date(2, 0, 8);
        due("33 of the least upper end", 1, x.next(0, 0));
        due("33 and its lower end", 3, x.next(0, 1));
        x.hill(8, 0);
        x.date(3, 1, 6);
        due("33 of several the least", 3, x.next(0, 1));
        x.hill(530, 0);
        due("33 other fire", 0, x.next(1, 0));
        due("33 other fire latest", 20, x.next(1, 1));
        x.date(4, 0, 30);
        due("33 0 at least", 0, x.next(1, 1));
        due("33 no fire", BAD, x.next(2, 0));
        due("33 no fire below", BAD, x.next(-1, 0));
        due("33 what", BAD, x.next(0, 2));
        due("33 no floor", BAD, new FireRows().next(0, 0));
        FireRows y = Checks.world("floor 99 1 0;fire 0 0 0 0 10 2;crack 0 0 0 0 0;story crack 1;story stays 1;");
        due("33 crack", STATE, y.next(0, 0));
        due("33 bad ahead of state", BAD, y.next(1, 0));
    }

    private static void p34p35() {
        FireRows x = new FireRows();
        due("34 no floor", STATE, x.image(0));
        due("34 no image", BAD, x.image(2));
        due("34 no image below", BAD, x.image(-1));
        due("35 none was kept", STATE, x.restore(1));
        due("35 no image", BAD, x.restore(2));
        due("35 no image below", BAD, x.restore(-1));
        Checks.read(x, WIDE);
        due("34 without hills", 1, x.image(1));
        x.hill(3, 4);
        x.date(0, 0, 9);
        x.needle(0, 6, 7);
        due("34 with hills", 1, x.image(0));
        due("35 still none", STATE, new FireRows().restore(0));
        x.date(0, 1, 80);
        x.hill(8, 8);
        x.needle(0, 0, 0);
        due("35 back", 1, x.restore(0));
        afterRestore(x);
        Checks.read(x, "floor 9 1 0;fire 0 0 0 0 1 0;house 5 5;house 4 4;story stays 1;");
        x.hill(90, 91);
        due("35 a hill of a new floor has no dates", 0, x.told(0, 2));
        ends(x, "35 a hill of a new floor", 0, 0, 99, 0);
        for (int v = 0; v < 80; v += 20) {
            x.date(0, 1, v);
        }
        x.needle(0, 92, 93);
        Checks.fill(x, 5, 1, 2, 3);
        Checks.feed(x, "floor");
        due("35 another floor", 1, x.restore(0));
        due("35 tape stays", 5, x.count(9));
        due("35 sheets stay", 1, x.count(0));
        afterRestore(x);
        x.date(0, 2, 60);
        due("35 an image stays as it was", 1, x.restore(0));
        afterRestore(x);
        due("35 without hills", 1, x.restore(1));
        due("35 no hills", 0, x.count(6));
        x.hill(1, 1);
        x.date(0, 0, 90);
        x.date(0, 0, 10);
        due("35 what is on the tape alone", -1000105, x.floor());
        Checks.read(x, WIDE);
        x.hill(1, 1);
        due("35 a new hill has no dates", 0, x.told(0, 2));
        due("35 a new hill has no needle", 0, x.told(0, 6));
        ends(x, "35 a new hill", 0, 0, 99, 0);
        due("34 anew", 1, x.image(0));
        due("35 anew", 1, x.restore(0));
        due("35 the later one", 1, x.told(0, 0));
    }

    /** All rooms of an image, and a row of all hills that bends nowhere. */
    private static void fullImage() {
        FireRows x = Checks.world(REST);
        x.sheet(0, 0, 12);
        for (int h = 0; h < 12; h++) {
            x.hill(h, h);
            x.set(0, h, h);
            for (int d = 0; d < 3; d++) {
                x.date(h, 1, 40 + h % 2 * 20 + d);
            }
        }
        due("34 full", 1, x.image(1));
        due("23 nowhere, of all hills", NONE, x.bend(0, 0, 12));
        Checks.read(x, REST);
        for (int h = 0; h < 12; h++) {
            x.hill(0, 0);
            x.date(h, 0, 1);
            x.date(h, 1, 2);
        }
        due("35 full", 1, x.restore(1));
        for (int h = 0; h < 12; h++) {
            due("35 one more of " + h, 4, x.date(h, 0, 42 + h % 2 * 20));
            ends(x, "35 full " + h, h, 42 + h % 2 * 20, 42 + h % 2 * 20, 0);
        }
        due("35 first dates", 2 - 5, x.leans(0, 1, 0));
        due("35 first dates to", 2 + 5, x.leans(0, 1, 1));
    }

    private static void afterRestore(FireRows x) {
        int[] told = {3, 4, 1, 8, 10, 0, 1};
        for (int what = 0; what < 7; what++) {
            due("35 told " + what, told[what], x.told(0, what));
        }
        due("35 hills", 1, x.count(6));
        due("35 stories", 4, x.count(5));
        due("35 drift", -139, x.drift(99, 0));
        due("35 needle", 0, x.says(0));
        x.hill(0, 0);
        x.needle(1, 0, 0);
        due("35 needle at least", 6 - 7, x.wandered(0, 1, 0));
        due("35 needle at most", 6 + 7, x.wandered(0, 1, 1));
        x.date(0, 1, 12);
        due("35 a date that was kept", 9 - 12 - 3, x.leans(0, 1, 0));
        ends(x, "35 dates that were kept", 0, 8, 10, 0);
        due("35 back again", 1, x.restore(0));
    }

    private static FireRows kinds() {
        FireRows x = Checks.world("floor 1 0 0;fire 0 0 0 0 10 5;house 0 0;house 0 1;house 0 2;story stays 1;");
        for (int h = 0; h < 6; h++) {
            x.hill(h == 5 ? 6 : 0, 0);
        }
        x.date(1, 2, 50);
        x.date(2, 1, 50);
        x.date(3, 2, 50);
        x.date(3, 2, 60);
        return x;
    }

    private static void p36p37() {
        FireRows x = kinds();
        int[] kinds = {4, 1, 2, 3, 4, 5};
        int[] above = {0, 0, 1, 1, 0, 4};
        for (int h = 0; h < 6; h++) {
            due("36 of " + h, kinds[h], x.kind(h));
            for (int k = 0; k < 6; k++) {
                boolean is = k == 0 || k == kinds[h] || k == above[kinds[h]];
                due("37 " + h + " as " + k, is ? h : Checks.KIND, x.as(h, k));
            }
        }
        x.date(2, 0, 70);
        due("36 twice ahead of sure", 3, x.kind(2));
        due("36 no hill", BAD, x.kind(6));
        due("36 no hill below", BAD, x.kind(-1));
        due("37 no hill", BAD, x.as(6, 0));
        due("37 no kind", BAD, x.as(0, 6));
        due("37 no kind below", BAD, x.as(0, -1));
    }

    private static void asked(FireRows x, int hill, int what, int want, int... trace) {
        due("38 " + hill + " " + what, want, x.ask(hill, what));
        for (int i = 0; i < 16; i++) {
            due("39 " + hill + " " + what + " " + i, i < trace.length ? trace[i] : NONE, x.trace(i));
        }
    }

    private static void p38p39() {
        FireRows x = kinds();
        asked(x, 4, 0, 0, 10);
        asked(x, 4, 1, 4, 22, 20, 10);
        asked(x, 1, 0, 1 + 48, 11, 10);
        asked(x, 1, 1, 101, 21, 20);
        asked(x, 2, 0, 2 * (1 + 49), 12, 11, 10);
        asked(x, 2, 1, 102, 21, 20);
        asked(x, 3, 0, 2 + 58 - 103, 13, 11, 10, 21, 20);
        asked(x, 3, 1, 103, 21, 20);
        asked(x, 5, 0, 7, 14, 10);
        asked(x, 5, 1, -(5 + 7), 23, 22, 20, 14, 10);
        due("38 no hill", BAD, x.ask(6, 0));
        due("38 no hill below", BAD, x.ask(-1, 0));
        due("38 what", BAD, x.ask(0, 2));
        due("38 what below", BAD, x.ask(0, -1));
        due("39 what is refused changes nothing", 23, x.trace(0));
        due("39 below", NONE, x.trace(-1));
        due("39 least", NONE, x.trace(LEAST));
        due("39 most", NONE, x.trace(MOST));
    }

    private static void p40() {
        FireRows x = Checks.world(WIDE);
        Checks.fill(x, 2, 1);
        Checks.fill(x, 6);
        x.hill(0, 0);
        x.hill(0, 0);
        x.hill(0, 0);
        x.date(0, 0, 1);
        x.date(0, 0, 1);
        x.date(2, 1, 1);
        x.needle(1, 0, 0);
        x.needle(1, 0, 1);
        Checks.feed(x, "floor ");
        int[] counts = {2, 2, 2, 3, 1, 4, 3, 3, 1, 6};
        for (int what = 0; what < 10; what++) {
            due("40 what " + what, counts[what], x.count(what));
        }
        due("40 above", BAD, x.count(10));
        due("40 below", BAD, x.count(-1));
        x.drop(6);
        due("40 dropped", 1, x.count(0));
        Checks.read(x, "9 1 0;fire 0 0 0 0 1 0;story stays 1;");
        int[] later = {1, 1, 1, 0, 0, 1, 0, 0, 0, 0};
        for (int what = 0; what < 10; what++) {
            due("40 later " + what, later[what], x.count(what));
        }
    }

    private static void p41() {
        FireRows x = kinds();
        x.sheet(0, 0, -1);
        due("41 size", 4, x.status());
        x.sheet(9, 0, 1);
        x.set(-1, 0, 0);
        x.copy(0, 0, 8, 0, 0);
        x.drop(8);
        x.hills(0, 0, 0);
        x.even(0, 0, 1);
        x.as(0, 6);
        due("41 bad leaves it", 4, x.status());
        x.set(0, 0, 0);
        due("41 null", 1, x.status());
        x.count(11);
        x.told(0, 0);
        x.ask(0, 0);
        x.kind(99);
        x.floor();
        due("41 calls without a sheet leave it", 1, x.status());
        x.sheet(0, 0, 3);
        due("41 none", 0, x.status());
        x.set(0, 3, 0);
        due("41 place", 2, x.status());
        x.set(0, 2, 1);
        due("41 none of set", 0, x.status());
        x.as(0, 5);
        due("41 kind", 3, x.status());
        x.as(0, 4);
        due("41 none of as", 0, x.status());
        x.sheet(1, 1, 3);
        x.copy(0, 0, 1, 0, 1);
        due("41 store", 5, x.status());
        x.even(0, 0, 2);
        due("41 an item is bad", 5, x.status());
        x.hills(0, 1, 1);
        due("41 none of hills", 0, x.status());
        x.drop(2);
        due("41 null of drop", 1, x.status());
        x.people(0, 1, 2);
        due("41 none of people", 0, x.status());
        x.hills(1, 0, 12);
        due("41 place of hills", 2, x.status());
        x.sheet(2, 0, 24);
        x.hills(1, 2, 1);
        x.hills(2, 0, 12);
        due("41 full leaves it", 2, x.status());
        x.drop(1);
        due("41 none of drop", 0, x.status());
    }
}
