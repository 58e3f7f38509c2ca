import java.math.BigInteger;
import java.util.ArrayList;
import java.util.List;

/** The document's terms once more, told in another way: lists, searches of all there is, no early ends. */
final class Model {
    static final class Hill {
        int x;
        int y;
        final List<int[]> dates = new ArrayList<>();
        int[] needle;
    }

    final List<int[]> floors = new ArrayList<>();
    final List<int[]> fires = new ArrayList<>();
    final List<int[]> houses = new ArrayList<>();
    int[] crack;
    final List<String> whiches = new ArrayList<>();
    final List<Integer> odds = new ArrayList<>();
    final List<Hill> hills = new ArrayList<>();

    String text() {
        StringBuilder text = new StringBuilder();
        lines(text, "floor", floors);
        lines(text, "fire", fires);
        lines(text, "house", houses);
        if (crack != null) {
            lines(text, "crack", List.of(crack));
        }
        for (int s = 0; s < whiches.size(); s++) {
            text.append("story ").append(whiches.get(s)).append(' ').append(odds.get(s)).append(';');
        }
        return text.toString();
    }

    private static void lines(StringBuilder text, String word, List<int[]> lines) {
        for (int[] line : lines) {
            text.append(word);
            for (int v : line) {
                text.append(' ').append(v);
            }
            text.append(';');
        }
    }

    int drift(int age, int axis) {
        int sum = 0;
        for (int u = 1; u <= age; u++) {
            int[] moved = floors.get(floors.size() - 1);
            for (int f = floors.size() - 1; f >= 0; f--) {
                if (floors.get(f)[0] >= u) {
                    moved = floors.get(f);
                }
            }
            sum += moved[1 + axis];
        }
        return sum;
    }

    int fires(int story) {
        return whiches.get(story).equals("crack") ? 1 : fires.size();
    }

    int where(int story, int fire, int age, int axis) {
        switch (whiches.get(story)) {
            case "crack":
                return crack[axis] + crack[2 + axis] * age;
            case "wanders":
                return fires.get(fire)[axis] - fires.get(fire)[2 + axis] * age + drift(age, axis);
            default:
                return fires.get(fire)[axis] + drift(age, axis);
        }
    }

    int[] endsOfDate(int[] date) {
        int[] house = houses.get(date[0]);
        int low = date[1] - house[0] - house[1];
        int high = date[1] - house[0] + house[1];
        return new int[] {Math.min(99, Math.max(0, low)), Math.min(99, Math.max(0, high))};
    }

    /** Lower end, upper end, whether again. */
    int[] ends(int hill) {
        List<int[]> all = new ArrayList<>();
        for (int[] date : hills.get(hill).dates) {
            all.add(endsOfDate(date));
        }
        int least = -1;
        int most = -1;
        for (int age = 0; age <= 99; age++) {
            boolean inAll = true;
            for (int[] e : all) {
                inAll &= age >= e[0] && age <= e[1];
            }
            if (inAll) {
                least = least < 0 ? age : least;
                most = age;
            }
        }
        if (least >= 0) {
            return new int[] {least, most, 0};
        }
        int[] of = all.get(0);
        for (int[] e : all) {
            of = e[0] > of[0] ? e : of;
        }
        return new int[] {of[0], of[1], 1};
    }

    /** Fire, age, off, whether it fits. */
    int[] nearest(int hill, int story) {
        int[] ends = ends(hill);
        int last = whiches.get(story).equals("late") ? 99 : ends[1];
        int[] best = null;
        for (int age = last; age >= ends[0]; age--) {
            for (int fire = fires(story) - 1; fire >= 0; fire--) {
                int dx = Math.abs(where(story, fire, age, 0) - hills.get(hill).x);
                int dy = Math.abs(where(story, fire, age, 1) - hills.get(hill).y);
                int wide = whiches.get(story).equals("crack") ? crack[4] : fires.get(fire)[5];
                int[] it = {fire, age, dx + dy, dx <= wide && dy <= wide ? 1 : 0};
                boolean better = best == null || it[2] < best[2]
                    || it[2] == best[2] && (it[0] < best[0] || it[0] == best[0] && it[1] < best[1]);
                best = better ? it : best;
            }
        }
        return best;
    }

    int fits(int story) {
        int bits = 0;
        for (int h = 0; h < hills.size(); h++) {
            bits += nearest(h, story)[3] << h;
        }
        return bits;
    }

    int belong(int story, int fire) {
        int bits = 0;
        for (int h = 0; h < hills.size(); h++) {
            int[] n = nearest(h, story);
            bits += n[0] == fire ? n[3] << h : 0;
        }
        return bits;
    }

    int odds(int story, int what) {
        BigInteger sum = BigInteger.ZERO;
        BigInteger own = BigInteger.ZERO;
        for (int s = 0; s < whiches.size(); s++) {
            BigInteger w = BigInteger.valueOf(odds.get(s)).multiply(BigInteger.valueOf(3).pow(Integer.bitCount(fits(s))));
            sum = sum.add(w);
            own = s == story ? w : own;
        }
        return (what == 0 ? own : sum).divide(own.gcd(sum)).intValueExact();
    }

    int apart(int a, int b) {
        return Math.abs(hills.get(a).x - hills.get(b).x) + Math.abs(hills.get(a).y - hills.get(b).y);
    }

    int pace(int a, int b, int what) {
        int most = what < 2 ? Integer.MIN_VALUE : Integer.MAX_VALUE;
        for (int ageA = ends(a)[0]; ageA <= ends(a)[1]; ageA++) {
            for (int ageB = ends(b)[0]; ageB <= ends(b)[1]; ageB++) {
                most = what < 2 ? Math.max(most, ageA - ageB) : Math.min(most, ageA - ageB);
            }
        }
        if (most <= 0) {
            return FireRows.NONE;
        }
        int gcd = BigInteger.valueOf(apart(a, b)).gcd(BigInteger.valueOf(most)).intValue();
        return (what % 2 == 0 ? apart(a, b) : most) / gcd;
    }

    /** Where a line goes through what there is, it can be moved till two ends hold it: all such are tried. */
    boolean even(int[] row) {
        long[] far = new long[row.length];
        boolean alike = true;
        for (int i = 0; i < row.length; i++) {
            far[i] = apart(row[0], row[i]);
            alike &= far[i] == 0;
        }
        if (alike) {
            return goesThrough(row, far, 0, 1, 0) || constantGoes(row);
        }
        for (int i = 0; i < row.length; i++) {
            for (int j = 0; j < row.length; j++) {
                for (int e = 0; e < 4 && far[i] < far[j]; e++) {
                    long atI = ends(row[i])[e / 2];
                    long atJ = ends(row[j])[e % 2];
                    long below = far[j] - far[i];
                    long b = atJ - atI;
                    if (goesThrough(row, far, b, below, atI * below - b * far[i])) {
                        return true;
                    }
                }
            }
        }
        return false;
    }

    private boolean constantGoes(int[] row) {
        for (int age = 0; age <= 99; age++) {
            if (goesThrough(row, new long[row.length], 0, 1, age)) {
                return true;
            }
        }
        return false;
    }

    private boolean goesThrough(int[] row, long[] far, long b, long below, long c) {
        for (int i = 0; i < row.length; i++) {
            long at = b * far[i] + c;
            int[] ends = ends(row[i]);
            if (at < ends[0] * below || at > ends[1] * below) {
                return false;
            }
        }
        return true;
    }

    int bend(int[] row) {
        for (int k = 1; k <= row.length - 2 && !even(row); k++) {
            if (even(java.util.Arrays.copyOfRange(row, 0, k + 1)) && even(java.util.Arrays.copyOfRange(row, k, row.length))) {
                return k;
            }
        }
        return FireRows.NONE;
    }

    boolean older(int a, int b) {
        return ends(a)[0] > ends(b)[1];
    }

    int people(int[] row) {
        for (int k = 0; k < row.length; k++) {
            for (int q = 0; q < k; q++) {
                if (older(row[k], row[q])) {
                    return k;
                }
            }
        }
        return FireRows.NONE;
    }

    int against(int[] row) {
        int pairs = 0;
        for (int i = 0; i < row.length; i++) {
            for (int j = i + 1; j < row.length; j++) {
                pairs += !older(row[i], row[j]) && older(row[j], row[i]) ? 1 : 0;
            }
        }
        return pairs;
    }

    int[] turn() {
        int[] best = null;
        for (int vx = -20; vx <= 20; vx++) {
            for (int vy = -20; vy <= 20; vy++) {
                int sum = 0;
                boolean any = false;
                for (int h = 0; h < hills.size(); h++) {
                    if (!hills.get(h).dates.isEmpty()) {
                        any = true;
                        int age = (ends(h)[0] + ends(h)[1]) / 2;
                        int least = Integer.MAX_VALUE;
                        for (int[] fire : fires) {
                            least = Math.min(least, Math.abs(fire[0] + vx * age - hills.get(h).x)
                                + Math.abs(fire[1] + vy * age - hills.get(h).y));
                        }
                        sum += least;
                    }
                }
                if (any && (best == null || sum < best[2])) {
                    best = new int[] {vx, vy, sum};
                }
            }
        }
        return best;
    }

    int says(int story) {
        int count = 0;
        for (int h = 0; h < hills.size(); h++) {
            int[] needle = hills.get(h).needle;
            if (needle != null) {
                int[] n = nearest(h, story);
                int north = where(story, n[0], n[1], 1) - drift(n[1], 1);
                count += north >= needle[0] - needle[1] && north <= needle[0] + needle[1] ? 1 : 0;
            }
        }
        return count;
    }

    /** Tries every lean, though a lean of two dates is never beyond 99 and two spans. */
    int leans(int a, int b, int what) {
        int spans = houses.get(a)[1] + houses.get(b)[1];
        int least = FireRows.NONE;
        int most = FireRows.NONE;
        for (int lean = -200; lean <= 200; lean++) {
            int with = 0;
            int in = 0;
            for (Hill hill : hills) {
                int[] ofA = first(hill, a);
                int[] ofB = first(hill, b);
                if (ofA != null && ofB != null) {
                    with++;
                    in += Math.abs(lean - (ofA[1] - ofB[1])) <= spans ? 1 : 0;
                }
            }
            if (with > 0 && in == with) {
                least = least == FireRows.NONE ? lean : least;
                most = lean;
            }
        }
        return what == 0 ? least : most;
    }

    private static int[] first(Hill hill, int house) {
        for (int[] date : hill.dates) {
            if (date[0] == house) {
                return date;
            }
        }
        return null;
    }

    int orders() {
        return ordersFrom(new boolean[hills.size()], 0);
    }

    private int ordersFrom(boolean[] placed, int n) {
        if (n == placed.length) {
            return 1;
        }
        int sum = 0;
        for (int h = 0; h < placed.length; h++) {
            boolean may = !placed[h];
            for (int g = 0; g < placed.length; g++) {
                may &= placed[g] || !older(g, h);
            }
            if (may) {
                placed[h] = true;
                sum += ordersFrom(placed, n + 1);
                placed[h] = false;
            }
        }
        return sum;
    }

    int chance() {
        int sets = 0;
        for (int a = 0; a < hills.size(); a++) {
            for (int b = 0; b < a; b++) {
                for (int c = 0; c < b; c++) {
                    long area = cross(a, b) + cross(b, c) + cross(c, a);
                    sets += area == 0 ? 1 : 0;
                }
            }
        }
        return sets;
    }

    private long cross(int a, int b) {
        return (long) hills.get(a).x * hills.get(b).y - (long) hills.get(a).y * hills.get(b).x;
    }

    int bore() {
        int best = FireRows.NONE;
        int most = -1;
        for (int h = 0; h < hills.size(); h++) {
            if (hills.get(h).dates.isEmpty()) {
                int difference = 0;
                for (int s = 0; s < whiches.size(); s++) {
                    for (int t = 0; t < whiches.size(); t++) {
                        difference = Math.max(difference, nearest(h, s)[1] - nearest(h, t)[1]);
                    }
                }
                if (difference > most) {
                    most = difference;
                    best = h;
                }
            }
        }
        return best;
    }

    int next(int fire, int what) {
        if (whiches.get(0).equals("crack")) {
            return FireRows.STATE;
        }
        int best = -1;
        for (int h = hills.size() - 1; h >= 0; h--) {
            int[] n = nearest(h, 0);
            if (n[3] == 1 && n[0] == fire && (best < 0 || ends(h)[1] <= ends(best)[1])) {
                best = h;
            }
        }
        return best < 0 ? FireRows.NONE : Math.max(0, fires.get(fire)[4] - ends(best)[1 - what]);
    }

    int kind(int hill) {
        int[] ends = ends(hill);
        if (!hills.get(hill).dates.isEmpty()) {
            return ends[2] == 1 ? 3 : ends[1] - ends[0] <= 2 ? 2 : 1;
        }
        int fitting = 0;
        for (int s = 0; s < whiches.size(); s++) {
            fitting += nearest(hill, s)[3];
        }
        return fitting == 0 ? 5 : 4;
    }

    int ask(int hill, int what) {
        int dates = hills.get(hill).dates.size();
        int lower = ends(hill)[0];
        int[] sizes = {0, dates + lower, 2 * (dates + lower), dates + lower - hill - 100, 0, 7};
        int[] marks = {0, hill + 100, hill + 100, hill + 100, hill, -(hill + 7)};
        return (what == 0 ? sizes : marks)[kind(hill)];
    }

    int[] trace(int hill, int what) {
        int[][] sizes = {{}, {11, 10}, {12, 11, 10}, {13, 11, 10, 21, 20}, {10}, {14, 10}};
        int[][] marks = {{}, {21, 20}, {21, 20}, {21, 20}, {22, 20, 10}, {23, 22, 20, 14, 10}};
        return (what == 0 ? sizes : marks)[kind(hill)];
    }
}
