/** Promises 6 to 8: the tape, texts and their faults. */
final class TextsTest {
    private static final String FLOOR = "floor 9 1 0;", FIRE = "fire 0 0 0 0 1 0;", STORY = "story stays 1;";
    private static final Checks CHECKS = new Checks("TextsTest");

    public static void main(String[] args) {
        tape();
        wholeTexts();
        faultsOfTokens();
        faultsOfNumbers();
        faultsOfRoom();
        faultsOfOrder();
        whatStays();
        CHECKS.end();
    }

    private static void whole(String text, int stories) {
        FireRows x = new FireRows();
        CHECKS.due("floor of '" + text + "'", stories, Checks.read(x, text));
        CHECKS.due("fault of '" + text + "'", 0, x.fault());
        CHECKS.due("tape behind '" + text + "'", 0, x.count(9));
    }

    private static void fault(String text, int place, int number) {
        FireRows x = new FireRows();
        CHECKS.due("floor of '" + text + "'", -1000100 - place, Checks.read(x, text));
        CHECKS.due("fault of '" + text + "'", number, x.fault());
        CHECKS.due("tape behind '" + text + "'", 0, x.count(9));
        CHECKS.due("stories behind '" + text + "'", 0, x.count(5));
    }

    private static void tape() {
        FireRows x = new FireRows();
        CHECKS.due("feed 0 bytes", FireRows.BAD, x.feed(1, 0));
        CHECKS.due("feed 9 bytes", FireRows.BAD, x.feed(1, 9));
        CHECKS.due("feed -1 bytes", FireRows.BAD, x.feed(1, -1));
        CHECKS.due("feed 1 byte", 1, x.feed(-1, 1));
        for (int i = 1; i <= 62; i++) {
            CHECKS.due("feed 8 bytes", 1 + 8 * i, x.feed(i, 8));
        }
        CHECKS.due("feed 4 bytes too many", FireRows.FULL, x.feed(0, 4));
        CHECKS.due("none came", 497, x.count(9));
        CHECKS.due("feed the last 3", 500, x.feed(0, 3));
        CHECKS.due("feed one more", FireRows.FULL, x.feed(0, 1));
        CHECKS.due("bad ahead of full", FireRows.BAD, x.feed(0, 9));
        CHECKS.due("byte 255 is no token", -1000100, x.floor());
        CHECKS.due("tape is empty then", 0, x.count(9));
        Checks.feed(x, FLOOR + FIRE + "story stays 1");
        x.feed(0x1122334455667700L | ';', 1);
        CHECKS.due("the lowest byte alone came", 1, x.floor());
    }

    private static void wholeTexts() {
        whole(FLOOR + FIRE + STORY, 1);
        whole("\n floor\n9  1 0 ;\n" + FIRE + "\n" + STORY + " \n", 1);
        whole("floor9 1 0;fire0-0 0 0 1 0;story stays1;", 1);
        whole("floor 0009 -099 -0;" + FIRE + STORY, 1);
        whole("floor 1 -99 99;floor 2 99 -99;floor 98 0 0;floor 99 0 0;" + FIRE + STORY, 1);
        whole(FLOOR + "fire -9999 9999 -9 9 1 0;fire 9999 -9999 9 -9 20 99;" + FIRE + FIRE + STORY, 1);
        whole(FLOOR + FIRE + "house -9 0;house 9 20;house 0 0;house 0 0;" + STORY, 1);
        whole(FLOOR + FIRE + "crack -9999 9999 -99 99 99;story crack 9;story late 1;" + STORY + "story wanders 1;", 4);
        whole(FLOOR + FIRE + STORY + STORY + STORY + STORY, 4);
    }

    private static void faultsOfTokens() {
        fault("", 0, 1);
        fault("  \n", 3, 1);
        fault(" Floor", 1, 1);
        fault("floors 9 1 0;", 0, 1);
        fault("floo 9 1 0;", 0, 1);
        fault("gloor 9 1 0;", 0, 1);
        fault("flook 9 1 0;", 0, 1);
        fault("floorz 9 1 0;", 0, 1);
        fault("floora 9 1 0;", 0, 1);
        fault("floor{ 9 1 0;", 5, 1);
        fault("floor` 9 1 0;", 5, 1);
        fault("floor : 9 1 0;", 6, 1);
        fault("floor / 9 1 0;", 6, 1);
        fault("floor", 5, 1);
        fault("floor ", 6, 1);
        fault("floor ;", 6, 1);
        fault("floor nine 1 0;", 6, 1);
        fault("floor 00009 1 0;", 6, 1);
        fault("floor -00009 1 0;", 6, 1);
        fault("floor - 9 1 0;", 6, 1);
        fault("floor --9 1 0;", 6, 1);
        fault("floor 9 1 0 0;", 12, 1);
        fault("floor 9 1;", 9, 1);
        fault("floor 9 1 0 fire", 12, 1);
        fault("floor 9\t1 0;", 7, 1);
        fault("floor 9 1 0,", 11, 1);
        fault("floor 9 12345678901234567890 0;", 8, 1);
        fault(FLOOR + FIRE + STORY + ";", 43, 1);
        fault(FLOOR + FIRE + STORY + "x", 43, 1);
        fault(FLOOR + FIRE + "story stays 1", 42, 1);
        fault(FLOOR + FIRE + "story stays 1 \n", 44, 1);
        fault(FLOOR + FIRE + "story stay 1;", 35, 1);
        fault(FLOOR + FIRE + "story 1 1;", 35, 1);
        fault(FLOOR + FIRE + "story stays;", 40, 1);
    }

    private static void faultsOfNumbers() {
        String[] floors = {"0 0 0", "100 0 0", "-1 0 0", "5 100 0", "5 -100 0", "5 0 100", "5 0 -100"};
        int[] floorPlaces = {0, 0, 0, 2, 2, 4, 4};
        for (int i = 0; i < floors.length; i++) {
            fault("floor " + floors[i] + ";", 6 + floorPlaces[i], 2);
        }
        fault("floor 5 0 0;floor 5 0 0;", 18, 2);
        fault("floor 5 0 0;floor 4 0 0;", 18, 2);
        String[] fires = {"0 0 10 0 1 0", "0 0 -10 0 1 0", "0 0 0 10 1 0", "0 0 0 -10 1 0", "0 0 0 0 0 0",
            "0 0 0 0 21 0", "0 0 0 0 1 -1", "0 0 0 0 1 100"};
        int[] firePlaces = {4, 4, 6, 6, 8, 8, 10, 10};
        for (int i = 0; i < fires.length; i++) {
            fault(FLOOR + "fire " + fires[i] + ";", 17 + firePlaces[i], 2);
        }
        String[] houses = {"-10 0", "10 0", "0 -1", "0 21"};
        int[] housePlaces = {0, 0, 2, 2};
        for (int i = 0; i < houses.length; i++) {
            fault(FLOOR + FIRE + "house " + houses[i] + ";", 35 + housePlaces[i], 2);
        }
        String[] cracks = {"0 0 100 0 0", "0 0 -100 0 0", "0 0 0 100 0", "0 0 0 -100 0", "0 0 0 0 -1", "0 0 0 0 100"};
        int[] crackPlaces = {4, 4, 6, 6, 8, 8};
        for (int i = 0; i < cracks.length; i++) {
            fault(FLOOR + FIRE + "crack " + cracks[i] + ";", 35 + crackPlaces[i], 2);
        }
        fault(FLOOR + FIRE + "story late 0;", 40, 2);
        fault(FLOOR + FIRE + "story late 10;", 40, 2);
        fault(FLOOR + FIRE + "story late -1;", 40, 2);
        fault("floor 0 100 0;floor", 6, 2);
    }

    private static void faultsOfRoom() {
        String floors = "floor 1 0 0;floor 2 0 0;floor 3 0 0;floor 4 0 0;";
        fault(floors + "floor 5 0 0;", 48, 3);
        fault(floors + "floor x", 48, 3);
        fault(FLOOR + FIRE + FIRE + FIRE + FIRE + " fire", 12 + 4 * 17 + 1, 3);
        fault(FLOOR + FIRE + "house 0 0;house 0 0;house 0 0;house 0 0;house 0 0;", 29 + 40, 3);
        fault(FLOOR + FIRE + STORY + STORY + STORY + STORY + STORY, 29 + 4 * 14, 3);
    }

    private static void faultsOfOrder() {
        String crack = "crack 0 0 0 0 0;";
        fault(FIRE + FLOOR + STORY, 0, 1);
        fault(FLOOR + STORY, 12, 1);
        fault(FLOOR + "house 0 0;" + FIRE + STORY, 12, 1);
        fault(FLOOR + FIRE + FLOOR, 29, 1);
        fault(FLOOR + FIRE + "house 0 0;" + FIRE, 39, 1);
        fault(FLOOR + FIRE + crack + crack + STORY, 29 + 16, 1);
        fault(FLOOR + FIRE + crack + "house 0 0;" + STORY, 29 + 16, 1);
        fault(FLOOR + FIRE + "house 0 0;", 39, 1);
        fault(FLOOR + FIRE + crack, 45, 1);
        fault(FLOOR + FIRE + STORY + crack, 43, 1);
        fault(FLOOR + FIRE + STORY + FIRE, 43, 1);
        fault(FLOOR + FIRE + "story crack 0;", 35, 1);
    }

    private static void whatStays() {
        FireRows x = Checks.world(FLOOR + FIRE + FIRE + "house 0 0;" + STORY + STORY);
        x.hill(1, 2);
        x.date(0, 0, 5);
        CHECKS.due("a fault", -1000105, Checks.read(x, "floor"));
        CHECKS.due("fires stay", 2, x.count(2));
        CHECKS.due("hills stay", 1, x.count(6));
        CHECKS.due("dates stay", 1, x.count(7));
        CHECKS.due("stories stay", 2, x.count(5));
        CHECKS.due("drift stays", 9, x.drift(9, 0));
        CHECKS.due("another fault", -1000106, Checks.read(x, "floor 0"));
        CHECKS.due("the latest one", 2, x.fault());
        CHECKS.due("a new floor", 1, Checks.read(x, "floor 3 2 2;" + FIRE + STORY));
        CHECKS.due("the latest one stays", 2, x.fault());
        CHECKS.due("no hills", 0, x.count(6));
        CHECKS.due("no houses", 0, x.count(3));
        CHECKS.due("its drift", 18, x.drift(9, 1));
    }
}
