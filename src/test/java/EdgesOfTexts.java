/** Promises 6 to 8: the tape, what a text may hold, and its faults. */
final class EdgesOfTexts {
    private static final String FLOOR = Edges.FLOOR, FIRE = Edges.FIRE, STORY = Edges.STORY;
    private static final String HOUSE = "house 0 0;", CRACK = "crack 0 0 0 0 0;";
    private static final int ROOM = 500;
    private final Edges e;

    EdgesOfTexts(Edges edges) {
        e = edges;
    }

    void run() {
        tape();
        feed();
        tokens();
        order();
        floors();
        fires();
        houses();
        cracks();
        stories();
        anew();
        faults();
        floor();
        fault();
    }

    private void whole(String text, int stories) {
        FireRows x = new FireRows();
        e.due("'" + text + "' is read", stories, Checks.read(x, text));
        e.due("'" + text + "' has no fault", 0, x.fault());
    }

    private void faulty(String text, int place, int number) {
        FireRows x = new FireRows();
        e.due("place of the fault of '" + text + "'", place, -1000100 - Checks.read(x, text));
        e.due("fault of '" + text + "'", number, x.fault());
        e.due("no floor of '" + text + "'", Edges.STATE, x.drift(0, 0));
    }

    private static String padded(String text, int length) {
        return text + " ".repeat(length - text.length());
    }

    private void tape() {
        e.terms("TEXTS: THE TAPE has at most 500 bytes;");
        whole(padded(FLOOR + FIRE + STORY, ROOM), 1);
        whole(" ".repeat(ROOM - 43) + FLOOR + FIRE + STORY, 1);
        faulty(" ".repeat(ROOM), ROOM, 1);
        faulty(padded(FLOOR + FIRE + STORY, ROOM - 1) + "a", ROOM - 1, 1);
        FireRows x = new FireRows();
        Checks.feed(x, " ".repeat(ROOM));
        e.due("all", ROOM, x.count(9));
        e.due("no more", Edges.FULL, x.feed(' ', 1));
        e.due("as many as were", ROOM, x.count(9));
        x.floor();
        e.due("room once more", 8, x.feed(0, 8));
    }

    private void feed() {
        e.promise(6, "The lowest n bytes of w (1 to 8), the highest of them first, come behind the tape: how many it has.");
        FireRows x = new FireRows();
        for (int n = 1; n <= 8; n++) {
            e.due(n + " bytes", n * (n + 1) / 2, x.feed(-1, n));
        }
        e.due("byte 255 is no token", -1000100, x.floor());
        FireRows y = new FireRows();
        e.due("two of eight", 2, y.feed(0x7878787878780000L | 'f' << 8 | 'l', 2));
        e.due("three of them", 5, y.feed(0xffffffffff000000L | 'o' << 16 | 'o' << 8 | 'r', 3));
        Checks.feed(y, padded(" 9 1 0;", 11) + FIRE + "story");
        e.due("eight, the highest first", 46, y.feed(0x2073746179732031L, 8));
        e.due("one, the lowest", 47, y.feed(Long.MIN_VALUE | ';', 1));
        e.due("they make a text", 1, y.floor());
        e.promise(6, "BAD: n; FULL: none comes.");
        e.due("none", Edges.BAD, y.feed(0, 0));
        e.due("nine", Edges.BAD, y.feed(0, 9));
        e.due("below none", Edges.BAD, y.feed(0, -1));
        e.due("least", Edges.BAD, y.feed(0, Edges.LEAST));
        e.due("most", Edges.BAD, y.feed(0, Edges.MOST));
        e.due("nothing came", 0, y.count(9));
        Checks.feed(y, " ".repeat(ROOM - 7));
        e.due("eight where seven have room", Edges.FULL, y.feed(0, 8));
        e.due("none of them came", ROOM - 7, y.count(9));
        e.due("seven", ROOM, y.feed(0x20202020202020L, 7));
        e.due("one more", Edges.FULL, y.feed(' ', 1));
        e.due("BAD ahead of FULL", Edges.BAD, y.feed(0, 9));
        e.due("what did not come is not read", -1000100 - ROOM, y.floor());
    }

    private void tokens() {
        e.terms("TOKENS: NAMES (letters a to z),");
        faulty("Floor 9 1 0;", 0, 1);
        faulty("floor` 9 1 0;", 5, 1);
        faulty("floor{ 9 1 0;", 5, 1);
        faulty("floora 9 1 0;", 0, 1);
        faulty("floorz 9 1 0;", 0, 1);
        faulty("floo", 0, 1);
        faulty("gloor 9 1 0;", 0, 1);
        faulty("floos 9 1 0;", 0, 1);
        faulty("f", 0, 1);
        faulty("z".repeat(ROOM), 0, 1);
        e.terms("NUMBERS (perhaps -, at once figures, 4 at most),");
        whole("floor 9 1 0;fire 9999 -9999 0009 -009 0001 0;" + STORY, 1);
        whole("floor 9 -0 -0000;" + FIRE + STORY, 1);
        whole("floor9 1-1;" + FIRE + STORY, 1);
        faulty("floor 00009 1 0;", 6, 1);
        faulty("floor -00009 1 0;", 6, 1);
        faulty(FLOOR + "fire 10000 0 0 0 1 0;", 17, 1);
        faulty(FLOOR + "fire 0 -10000 0 0 1 0;", 19, 1);
        faulty("floor 4294967305 1 0;", 6, 1);
        faulty("floor " + "9".repeat(ROOM - 6), 6, 1);
        faulty("floor 9 - 1 0;", 8, 1);
        faulty("floor 9 -\n1 0;", 8, 1);
        faulty("floor 9 --1 0;", 8, 1);
        faulty("floor 9 +1 0;", 8, 1);
        faulty("floor 9 -", 8, 1);
        faulty("floor 9 -;", 8, 1);
        faulty("floor 9 -a", 8, 1);
        faulty("floor 9 : 0;", 8, 1);
        faulty("floor 9 / 0;", 8, 1);
        faulty("floor 9 1.0;", 9, 1);
        e.terms("SIGNS ; bytes 32 and 10 between.");
        whole("floor\n9\n1\n0\n;\nfire  0  0  0  0  1  0  ;\n\nstory stays 1;\n", 1);
        whole("\n floor 9 1 0;fire 0 0 0 0 1 0;story stays 1; \n", 1);
        for (int sign = 0; sign < 256; sign++) {
            boolean between = sign == 32 || sign == 10;
            boolean figure = sign >= '0' && sign <= '9';
            if (!between && !figure) {
                faulty("floor 9" + (char) sign + " 1 0;", 7, 1);
            }
        }
        faulty("floor 9\t1 0;", 7, 1);
        faulty("floor 9 1 0;\r\n", 12, 1);
        faulty("floor 9 1 0,", 11, 1);
        faulty("floor 9 1 0:", 11, 1);
        faulty(";", 0, 1);
        faulty("floor 9 1 0-" + FIRE + STORY, 11, 1);
        faulty("floor 9 1 0 12345" + FIRE + STORY, 12, 1);
        faulty(FLOOR + FIRE + "story stays 1-", 42, 1);
    }

    private void order() {
        e.terms("text: floor { floor } fire { fire } { house } [ crack ] story { story }.");
        whole(FLOOR + FIRE + STORY, 1);
        whole("floor 1 0 0;floor 2 0 0;" + FIRE + FIRE + HOUSE + HOUSE + CRACK + STORY + STORY, 2);
        whole(FLOOR + FIRE + HOUSE + STORY, 1);
        whole(FLOOR + FIRE + CRACK + STORY, 1);
        faulty("", 0, 1);
        faulty(FIRE + STORY, 0, 1);
        faulty(HOUSE, 0, 1);
        faulty(CRACK, 0, 1);
        faulty(STORY, 0, 1);
        faulty(FLOOR, 12, 1);
        faulty(FLOOR + HOUSE, 12, 1);
        faulty(FLOOR + CRACK, 12, 1);
        faulty(FLOOR + STORY, 12, 1);
        faulty(FLOOR + FIRE, 29, 1);
        faulty(FLOOR + FIRE + FLOOR, 29, 1);
        faulty(FLOOR + FIRE + HOUSE, 39, 1);
        faulty(FLOOR + FIRE + HOUSE + FIRE, 39, 1);
        faulty(FLOOR + FIRE + HOUSE + FLOOR, 39, 1);
        faulty(FLOOR + FIRE + CRACK, 45, 1);
        faulty(FLOOR + FIRE + CRACK + CRACK, 45, 1);
        faulty(FLOOR + FIRE + CRACK + HOUSE, 45, 1);
        faulty(FLOOR + FIRE + CRACK + FIRE, 45, 1);
        faulty(FLOOR + FIRE + STORY + CRACK, 43, 1);
        faulty(FLOOR + FIRE + STORY + HOUSE, 43, 1);
        faulty(FLOOR + FIRE + STORY + FIRE, 43, 1);
        faulty(FLOOR + FIRE + STORY + FLOOR, 43, 1);
        faulty(FLOOR + FIRE + STORY + "stays", 43, 1);
        faulty(FLOOR + FIRE + STORY + "1", 43, 1);
    }

    /** One number of a line at its least, its most and beyond both; five figures are no number. */
    private void bounds(String ahead, String line, int column, int least, int most, String behind) {
        for (int v : new int[] {least, most, least - 1, most + 1}) {
            String[] part = line.split(" ");
            part[column + 1] = "" + v;
            String text = String.join(" ", part);
            int place = ahead.length();
            for (int i = 0; i <= column; i++) {
                place += part[i].length() + 1;
            }
            if (v >= least && v <= most) {
                whole(ahead + text + ";" + behind, 1);
            } else {
                faulty(ahead + text + ";" + behind, place, v > 9999 || v < -9999 ? 1 : 2);
            }
        }
    }

    private void floors() {
        e.terms("floor: 'floor' TILL VX VY ';' (TILL 1 to 99, above that of the one ahead; -99 to 99 each; 4 at most).");
        bounds("", "floor 5 0 0", 0, 1, 99, FIRE + STORY);
        bounds("", "floor 5 0 0", 1, -99, 99, FIRE + STORY);
        bounds("", "floor 5 0 0", 2, -99, 99, FIRE + STORY);
        bounds("floor 5 0 0;", "floor 7 0 0", 0, 6, 99, FIRE + STORY);
        bounds("floor 98 0 0;", "floor 99 0 0", 0, 99, 99, FIRE + STORY);
        bounds("floor 1 0 0;floor 50 0 0;", "floor 7 0 0", 0, 51, 99, FIRE + STORY);
        faulty("floor 99 0 0;floor 99 0 0;", 19, 2);
        faulty("floor 99 0 0;floor 100 0 0;", 19, 2);
        whole("floor 1 0 0;floor 2 0 0;floor 3 0 0;floor 4 0 0;" + FIRE + STORY, 1);
        faulty("floor 1 0 0;floor 2 0 0;floor 3 0 0;floor 4 0 0;floor 5 0 0;" + FIRE + STORY, 48, 3);
        faulty("floor 9 1;", 9, 1);
        faulty("floor 9 1 0 0;", 12, 1);
        faulty("floor;", 5, 1);
    }

    private void fires() {
        e.terms("fire: 'fire' X Y WX WY EVERY WIDE ';' (-9999 to 9999; -9 to 9; EVERY 1 to 20; WIDE 0 to 99; FIRES 0 .. 3).");
        int[] least = {-9999, -9999, -9, -9, 1, 0};
        int[] most = {9999, 9999, 9, 9, 20, 99};
        for (int column = 0; column < 6; column++) {
            bounds(FLOOR, "fire 0 0 0 0 1 0", column, least[column], most[column], STORY);
        }
        FireRows x = Checks.world(FLOOR + FIRE + FIRE + FIRE + "fire 7 0 0 0 1 0;" + STORY);
        e.due("fire 3", 7, x.where(0, 3, 0, 0));
        e.due("no fire 4", Edges.BAD, x.where(0, 4, 0, 0));
        faulty(FLOOR + FIRE + FIRE + FIRE + FIRE + FIRE + STORY, 80, 3);
        faulty(FLOOR + "fire 0 0 0 0 1;", 26, 1);
        faulty(FLOOR + "fire 0 0 0 0 1 0 0;", 29, 1);
    }

    private void houses() {
        e.terms("house: 'house' LEAN SPAN ';' (-9 to 9; 0 to 20; HOUSES 0 .. 3).");
        bounds(FLOOR + FIRE, "house 0 0", 0, -9, 9, STORY);
        bounds(FLOOR + FIRE, "house 0 0", 1, 0, 20, STORY);
        FireRows x = Checks.world(FLOOR + FIRE + HOUSE + HOUSE + HOUSE + "house 7 0;" + STORY);
        x.hill(0, 0);
        e.due("no house 4", Edges.BAD, x.date(0, 4, 9));
        e.due("house 3", 1, x.date(0, 3, 9));
        e.ends(x, "house 3", 0, 2, 2, 0);
        faulty(FLOOR + FIRE + HOUSE + HOUSE + HOUSE + HOUSE + HOUSE + STORY, 69, 3);
        faulty(FLOOR + FIRE + "house 0;", 36, 1);
        faulty(FLOOR + FIRE + "house 0 0 0;", 39, 1);
    }

    private void cracks() {
        e.terms("crack: 'crack' X Y VX VY WIDE ';' (as for fires; VX, VY -99 to 99).");
        int[] least = {-9999, -9999, -99, -99, 0};
        int[] most = {9999, 9999, 99, 99, 99};
        for (int column = 0; column < 5; column++) {
            bounds(FLOOR + FIRE, "crack 0 0 0 0 0", column, least[column], most[column], STORY);
        }
        faulty(FLOOR + FIRE + "crack 0 0 0 0;", 42, 1);
        faulty(FLOOR + FIRE + "crack 0 0 0 0 0 0;", 45, 1);
    }

    private void stories() {
        e.terms("story: 'story' WHICH ODDS ';' (WHICH: 'stays' | 'wanders' | 'crack' | 'late'; ODDS 1 to 9; STORIES 0 .. 3; "
            + "'crack' only where one was told, else FAULT 1).");
        for (String which : new String[] {"stays", "wanders", "late"}) {
            bounds(FLOOR + FIRE, "story " + which + " 1", 1, 1, 9, "");
            faulty(FLOOR + FIRE + "story " + which + ";", 35 + which.length(), 1);
            faulty(FLOOR + FIRE + "story " + which + "s 1;", 35, 1);
        }
        bounds(FLOOR + FIRE + CRACK, "story crack 1", 1, 1, 9, "");
        faulty(FLOOR + FIRE + "story crack 1;", 35, 1);
        faulty(FLOOR + FIRE + STORY + "story crack 1;", 49, 1);
        faulty(FLOOR + FIRE + "story 1 1;", 35, 1);
        faulty(FLOOR + FIRE + "story ;", 35, 1);
        faulty(FLOOR + FIRE + "story stays 1 1;", 43, 1);
        whole(FLOOR + FIRE + CRACK + STORY + "story wanders 9;story crack 1;story late 9;", 4);
        faulty(FLOOR + FIRE + STORY + STORY + STORY + STORY + STORY, 85, 3);
        FireRows x = Checks.world(FLOOR + FIRE + STORY + STORY + STORY + "story late 9;");
        e.due("story 3", 3, x.odds(3, 0));
        e.due("of all four", 4, x.odds(3, 1));
        e.due("no story 4", Edges.BAD, x.odds(4, 1));
    }

    private void anew() {
        e.terms("A FLOOR that is read stands in place of the one before (none at first): no HILLS.");
        FireRows x = new FireRows();
        e.due("none at first", Edges.STATE, x.hill(0, 0));
        Checks.read(x, "floor 1 9 9;floor 2 9 9;" + FIRE + FIRE + HOUSE + HOUSE + CRACK + STORY + "story crack 1;");
        for (int h = 0; h < 12; h++) {
            x.hill(h, h);
            x.date(h, 0, 5);
            x.date(h, 0, 6);
            x.needle(h, 1, 1);
        }
        e.due("another one", 1, Checks.read(x, FLOOR + FIRE + STORY));
        int[] counts = {0, 1, 1, 0, 0, 1, 0, 0, 0, 0};
        for (int what = 0; what < 10; what++) {
            e.due("count " + what, counts[what], x.count(what));
        }
        e.due("its drift", 99, x.drift(99, 0));
        e.due("no hill 0", Edges.BAD, x.told(0, 0));
        e.due("a new hill is the first", 0, x.hill(4, 5));
        e.ends(x, "without dates", 0, 0, 99, 0);
        e.due("without a needle", 0, x.told(0, 6));
        e.due("the same text once more", 1, Checks.read(x, FLOOR + FIRE + STORY));
        e.due("no hills either", 0, x.count(6));
    }

    private void faults() {
        e.terms("FAULTS, the first TOKEN that has one (its first byte), of one TOKEN the least:");
        faulty("floor 0 100 100;", 6, 2);
        faulty("floor 9 100 x;", 8, 2);
        faulty("floor 9 x 100;", 8, 1);
        faulty(" \n floor  0 1 1;", 10, 2);
        faulty("floor 9 1 0 -100;", 12, 1);
        faulty("floor 9 1 0 floor", 12, 1);
        faulty(FLOOR + FIRE + "story crack 0;", 35, 1);
        faulty("floor 1 0 0;floor 2 0 0;floor 3 0 0;floor 4 0 0;" + FIRE + FLOOR, 65, 1);
        faulty(FLOOR + FIRE + HOUSE + HOUSE + HOUSE + HOUSE + CRACK + HOUSE, 85, 1);
        faulty(FLOOR + FIRE + STORY + STORY + STORY + STORY + FIRE, 85, 1);
        e.terms("1 it cannot stand there, or is none (the end: how many bytes there are);");
        faulty("", 0, 1);
        faulty(" ", 1, 1);
        faulty("\n\n\n", 3, 1);
        faulty("floor", 5, 1);
        faulty("floor ", 6, 1);
        faulty("floor 9 1 0", 11, 1);
        faulty("floor 9 1 0 \n", 13, 1);
        faulty(FLOOR + FIRE + "story", 34, 1);
        faulty(FLOOR + FIRE + "story stays", 40, 1);
        faulty(FLOOR + FIRE + "story stays 1", 42, 1);
        faulty(FLOOR + FIRE + STORY + ";", 43, 1);
        faulty(FLOOR + FIRE + STORY + " #", 44, 1);
        faulty("floor 9 9 story", 10, 1);
        faulty("9", 0, 1);
        e.terms("2 a NUMBER that is not as told;");
        faulty("floor 9999 1 0;", 6, 2);
        faulty("floor -9999 1 0;", 6, 2);
        faulty("floor -1 1 0", 6, 2);
        faulty("floor 9 1 -100", 10, 2);
        faulty(FLOOR + FIRE + "story stays 0", 41, 2);
        e.terms("3 more of a sort than there is room for (its word).");
        faulty("floor 1 0 0;floor 2 0 0;floor 3 0 0;floor 4 0 0;\n floor", 50, 3);
        faulty("floor 1 0 0;floor 2 0 0;floor 3 0 0;floor 4 0 0;floor 4 0 0;", 48, 3);
        faulty("floor 1 0 0;floor 2 0 0;floor 3 0 0;floor 4 0 0;floors", 48, 1);
        faulty(FLOOR + FIRE + FIRE + FIRE + FIRE + " fire x", 81, 3);
        faulty(FLOOR + FIRE + HOUSE + HOUSE + HOUSE + HOUSE + " house", 70, 3);
        faulty(FLOOR + FIRE + STORY + STORY + STORY + STORY + " story", 86, 3);
    }

    private void floor() {
        e.promise(7, "The tape, empty then, is read: how many STORIES there are.");
        FireRows x = new FireRows();
        for (int stories = 1; stories <= 4; stories++) {
            e.due("with " + stories, stories, Checks.read(x, FLOOR + FIRE + STORY.repeat(stories)));
            e.due("the tape is empty", 0, x.count(9));
            e.due("as many are counted", stories, x.count(5));
        }
        e.due("an empty tape", -1000100, x.floor());
        e.promise(7, "-1000100 less the place of a FAULT: all stays.");
        x.hill(3, 4);
        x.needle(0, 5, 6);
        Checks.fill(x, 2, 7, 8);
        x.ask(0, 0);
        x.image(0);
        int first = x.trace(0);
        String text = "floor 1 9 9;" + FIRE + FIRE + HOUSE + CRACK + STORY;
        for (int cut = 0; cut < text.length(); cut++) {
            int place = cutsName(text, cut) ? nameStart(text, cut) : cut;
            e.due("cut at " + cut, -1000100 - place, Checks.read(x, text.substring(0, cut)));
            e.due("the tape is empty then, too", 0, x.count(9));
        }
        int[] counts = {1, 1, 1, 0, 0, 4, 1, 0, 1, 0};
        for (int what = 0; what < 10; what++) {
            e.due("count " + what, counts[what], x.count(what));
        }
        e.due("the hill stays", 3, x.told(0, 0));
        e.due("the drift stays", 99, x.drift(99, 0));
        e.due("the trace stays", first, x.trace(0));
        e.due("the last place", -1000100 - ROOM + 1, Checks.read(x, " ".repeat(ROOM - 1) + "x"));
    }

    /** Whether a cut leaves part of a word: then the fault is where that begins, else at the end. */
    private static boolean cutsName(String text, int cut) {
        return cut > 0 && Character.isLetter(text.charAt(cut - 1)) && Character.isLetter(text.charAt(cut));
    }

    private static int nameStart(String text, int cut) {
        int start = cut;
        while (start > 0 && Character.isLetter(text.charAt(start - 1))) {
            start--;
        }
        return start;
    }

    private void fault() {
        e.promise(8, "The number of the latest FAULT; 0 before one.");
        FireRows x = new FireRows();
        e.due("before one", 0, x.fault());
        Checks.read(x, FLOOR + FIRE + STORY);
        e.due("before one, with a floor", 0, x.fault());
        Checks.read(x, FLOOR + FIRE + STORY.repeat(5));
        e.due("3", 3, x.fault());
        Checks.read(x, "floor 0");
        e.due("2", 2, x.fault());
        Checks.read(x, FLOOR + FIRE + STORY);
        e.due("2 is still the latest", 2, x.fault());
        x.floor();
        e.due("1", 1, x.fault());
        x.image(0);
        x.restore(0);
        x.hill(100000, 0);
        e.due("1 is still the latest", 1, x.fault());
        e.due("none of another object", 0, new FireRows().fault());
    }
}
