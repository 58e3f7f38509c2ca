import java.util.Random;

/** Promises 9 to 40 on worlds made by chance (of a told seed), against the model. */
final class ModelTest {
    private static final Checks CHECKS = new Checks("ModelTest");
    private static final String[] WHICHES = {"stays", "wanders", "late", "crack"};
    private final Random random;
    private final Model model = new Model();
    private FireRows x;

    private ModelTest(long seed) {
        random = new Random(seed);
    }

    public static void main(String[] args) {
        for (int seed = 0; seed < 400; seed++) {
            ModelTest test = new ModelTest(seed);
            test.makeWorld();
            test.compareFloor();
            test.compareHills();
            test.compareStories();
            test.compareRows();
            test.compareAsks();
        }
        CHECKS.end();
    }

    private int from(int least, int most) {
        return least + random.nextInt(most - least + 1);
    }

    private void due(String call, int want, int got) {
        CHECKS.due(model.text() + " " + call, want, got);
    }

    private void makeWorld() {
        boolean small = random.nextBoolean();
        int fast = small ? 3 : 99;
        int far = small ? 40 : 9999;
        int till = 0;
        for (int i = from(1, 4); i > 0; i--) {
            till += from(1, 24);
            model.floors.add(new int[] {till, from(-fast, fast), from(-fast, fast)});
        }
        for (int i = from(1, 4); i > 0; i--) {
            model.fires.add(new int[] {from(-far, far), from(-far, far), from(-9, 9), from(-9, 9), from(1, 20), from(0, 99)});
        }
        for (int i = from(0, 4); i > 0; i--) {
            model.houses.add(new int[] {from(-9, 9), random.nextBoolean() ? from(0, 2) : from(0, 20)});
        }
        if (random.nextBoolean()) {
            model.crack = new int[] {from(-far, far), from(-far, far), from(-fast, fast), from(-fast, fast), from(0, 99)};
        }
        for (int i = from(1, 4); i > 0; i--) {
            model.whiches.add(WHICHES[random.nextInt(model.crack == null ? 3 : 4)]);
            model.odds.add(from(1, 9));
        }
        x = Checks.world(model.text());
        makeHills(small);
    }

    private void makeHills(boolean small) {
        int hills = from(1, 7);
        while (model.hills.size() < hills) {
            if (random.nextBoolean()) {
                makeByStory();
            } else {
                addHill(small ? from(-9, 9) : from(-99999, 99999), small ? from(-9, 9) : from(-99999, 99999), true);
            }
        }
        for (int h = 0; h < model.hills.size(); h++) {
            for (int i = model.houses.isEmpty() ? 0 : from(0, 4); i > 0; i--) {
                int[] date = {random.nextInt(model.houses.size()), small ? from(40, 44) : from(0, 99)};
                model.hills.get(h).dates.add(date);
                due("date", model.hills.get(h).dates.size(), x.date(h, date[0], date[1]));
            }
            if (random.nextBoolean()) {
                model.hills.get(h).needle = new int[] {from(-99, 99), from(0, 99)};
                due("needle", 1, x.needle(h, model.hills.get(h).needle[0], model.hills.get(h).needle[1]));
            }
        }
    }

    private void makeByStory() {
        int story = random.nextInt(model.whiches.size());
        int fire = random.nextInt(model.fires(story));
        int n = from(1, 2);
        for (int k = 0; k < n; k++) {
            int age = k * model.fires.get(fire)[4];
            addHill(model.where(story, fire, age, 0), model.where(story, fire, age, 1), false);
        }
        due("made", model.hills.size(), x.made(story, fire, n));
    }

    private void addHill(int hillX, int hillY, boolean told) {
        Model.Hill hill = new Model.Hill();
        hill.x = hillX;
        hill.y = hillY;
        model.hills.add(hill);
        if (told) {
            due("hill", model.hills.size() - 1, x.hill(hillX, hillY));
        }
    }

    private void compareFloor() {
        for (int age = 0; age <= 99; age += from(1, 20)) {
            for (int what = 0; what < 2; what++) {
                due("drift " + age, model.drift(age, what), x.drift(age, what));
                for (int s = 0; s < model.whiches.size(); s++) {
                    for (int f = 0; f < model.fires(s); f++) {
                        due("where " + s + " " + f + " " + age, model.where(s, f, age, what), x.where(s, f, age, what));
                    }
                }
            }
        }
    }

    private void compareHills() {
        int dates = 0;
        int needles = 0;
        for (int h = 0; h < model.hills.size(); h++) {
            Model.Hill hill = model.hills.get(h);
            int[] ends = model.ends(h);
            int[] told = {hill.x, hill.y, hill.dates.size(), ends[0], ends[1], ends[2], hill.needle == null ? 0 : 1};
            for (int what = 0; what < told.length; what++) {
                due("told " + h + " " + what, told[what], x.told(h, what));
            }
            dates += hill.dates.size();
            needles += told[6];
        }
        int[] counts = {0, model.floors.size(), model.fires.size(), model.houses.size(), model.crack == null ? 0 : 1,
            model.whiches.size(), model.hills.size(), dates, needles, 0};
        for (int what = 0; what < counts.length; what++) {
            due("count " + what, counts[what], x.count(what));
        }
    }

    private void compareStories() {
        for (int s = 0; s < model.whiches.size(); s++) {
            for (int h = 0; h < model.hills.size(); h++) {
                int[] nearest = model.nearest(h, s);
                for (int what = 0; what < 4; what++) {
                    due("nearest " + h + " " + s + " " + what, nearest[what], x.nearest(h, s, what));
                }
            }
            due("fits " + s, model.fits(s), x.fits(s));
            due("odds above " + s, model.odds(s, 0), x.odds(s, 0));
            due("odds below " + s, model.odds(s, 1), x.odds(s, 1));
            for (int f = 0; f < model.fires(s); f++) {
                due("belong " + s + " " + f, model.belong(s, f), x.belong(s, f));
            }
            String which = model.whiches.get(s);
            boolean ofNeedles = which.equals("stays") || which.equals("wanders");
            due("says " + s, ofNeedles ? model.says(s) : FireRows.BAD, x.says(s));
        }
        due("bore", model.bore(), x.bore());
        for (int f = 0; f < model.fires.size(); f++) {
            due("next " + f + " soonest", model.next(f, 0), x.next(f, 0));
            due("next " + f + " latest", model.next(f, 1), x.next(f, 1));
        }
    }

    private void compareRows() {
        int hills = model.hills.size();
        for (int a = 0; a < hills; a++) {
            for (int b = 0; b < hills; b++) {
                for (int what = 0; what < 4 && a != b; what++) {
                    due("pace " + a + " " + b + " " + what, model.pace(a, b, what), x.pace(a, b, what));
                }
            }
        }
        for (int a = 0; a < model.houses.size(); a++) {
            for (int b = 0; b < model.houses.size(); b++) {
                for (int what = 0; what < 2 && a != b; what++) {
                    due("leans " + a + " " + b + " " + what, model.leans(a, b, what), x.leans(a, b, what));
                }
            }
        }
        int[] turn = model.turn();
        for (int what = 0; what < 3; what++) {
            due("turn " + what, turn == null ? FireRows.NONE : turn[what], x.turn(what));
        }
        due("orders", model.orders(), x.orders());
        due("chance", model.chance(), x.chance());
        for (int i = 0; i < 6; i++) {
            compareRow(shuffled(hills));
        }
    }

    private void compareRow(int[] row) {
        Checks.fill(x, 3, row);
        String name = java.util.Arrays.toString(row);
        due("people " + name, model.people(row), x.people(3, 0, row.length));
        if (row.length >= 2) {
            due("even " + name, model.even(row) ? 1 : 0, x.even(3, 0, row.length));
            due("against " + name, model.against(row), x.against(3, 0, row.length));
        }
        if (row.length >= 3) {
            due("bend " + name, model.bend(row), x.bend(3, 0, row.length));
        }
    }

    private int[] shuffled(int hills) {
        int[] all = new int[hills];
        for (int i = 0; i < hills; i++) {
            int j = random.nextInt(i + 1);
            all[i] = all[j];
            all[j] = i;
        }
        return java.util.Arrays.copyOf(all, from(1, hills));
    }

    private void compareAsks() {
        int[][] taken = {{}, {0, 1}, {0, 1, 2}, {0, 1, 3}, {0, 4}, {0, 4, 5}};
        for (int h = 0; h < model.hills.size(); h++) {
            int kind = model.kind(h);
            due("kind " + h, kind, x.kind(h));
            for (int k = 0; k < 6; k++) {
                boolean is = java.util.Arrays.binarySearch(taken[kind], k) >= 0;
                due("as " + h + " " + k, is ? h : Checks.KIND, x.as(h, k));
                due("status", is ? 0 : 3, x.status());
            }
            for (int what = 0; what < 2; what++) {
                due("ask " + h + " " + what, model.ask(h, what), x.ask(h, what));
                int[] trace = model.trace(h, what);
                for (int i = 0; i < 17; i++) {
                    due("trace " + i, i < trace.length ? trace[i] : FireRows.NONE, x.trace(i));
                }
            }
        }
    }
}
