import java.util.Arrays;
import java.util.Random;

/** Calls with any numbers in any state: none throws, and what is refused changes nothing that can be seen. */
final class AnyCallsTest {
    private static final int CALLS = 40;
    private static final int[] ODD = {-1, 0, 1, 2, 3, 4, 5, 8, 11, 12, 13, 39, 40, 41, 99, 100, 999, 1000, 99999, 100000,
        -99999, -100000, -2, Integer.MIN_VALUE, Integer.MAX_VALUE, Integer.MAX_VALUE - 1};
    private static final String[] TEXTS = {
        "floor 9 1 0;fire 0 0 0 0 1 0;story stays 1;",
        "floor 1 99 99;fire 9999 9999 -9 -9 20 99;house 9 20;crack -9999 9999 99 -99 99;story crack 9;story late 9;",
        "floor 10 -5 3;floor 30 -1 6;fire 100 50 0 1 4 6;fire -200 0 1 0 7 9;house 0 1;house 3 2;house -2 0;"
            + "crack 100 50 -5 3 4;story stays 5;story wanders 3;story crack 2;story late 1;",
        "floor 10 -5 3;fire 1 1;", "", "story"};
    private static final Checks CHECKS = new Checks("AnyCallsTest");
    private final Random random;
    private final FireRows x = new FireRows();

    private AnyCallsTest(long seed) {
        random = new Random(seed);
    }

    public static void main(String[] args) {
        for (int seed = 0; seed < 300; seed++) {
            AnyCallsTest test = new AnyCallsTest(seed);
            for (int call = 0; call < 512; call++) {
                test.step(seed);
            }
        }
        CHECKS.end();
    }

    private int any() {
        int way = random.nextInt(20);
        return way == 0 ? random.nextInt() : way < 4 ? ODD[random.nextInt(ODD.length)] : random.nextInt(way < 12 ? 3 : 12);
    }

    private void step(int seed) {
        int call = random.nextInt(CALLS + 2);
        if (call >= CALLS) {
            Checks.feed(x, TEXTS[random.nextInt(TEXTS.length)]);
            return;
        }
        int[] before = seen();
        int status = x.status();
        int answer = answer(call);
        boolean refused = answer == FireRows.BAD || answer == FireRows.STATE || answer == FireRows.FULL;
        boolean found = answer <= -1000011 && answer >= -1000015;
        boolean isSet = call == 1;
        if ((refused || found) && !isSet) {
            CHECKS.due("seed " + seed + ": call " + call + " was refused by " + answer + ": changes", 0,
                Arrays.mismatch(before, seen()) + 1);
            CHECKS.due("seed " + seed + ": status behind call " + call, found ? -1000010 - answer : status, x.status());
        }
    }

    /** What an object shows of itself, but for status. */
    private int[] seen() {
        int[] seen = new int[12 * 7 + 10 + 2 * 17 + 3];
        int at = 0;
        for (int hill = 0; hill < 12; hill++) {
            for (int what = 0; what < 7; what++) {
                seen[at++] = x.told(hill, what);
            }
        }
        for (int what = 0; what < 10; what++) {
            seen[at++] = x.count(what);
        }
        for (int i = 0; i < 17; i++) {
            seen[at++] = x.trace(i);
            seen[at++] = x.fits(i);
        }
        seen[at++] = x.drift(99, 0);
        seen[at++] = x.drift(99, 1);
        seen[at] = x.fault();
        return seen;
    }

    private int answer(int call) {
        switch (call) {
            case 0: return x.sheet(any(), any(), any());
            case 1: return x.set(any(), any(), any());
            case 2: return x.copy(any(), any(), any(), any(), any());
            case 3: return x.drop(any());
            case 4: return x.feed(random.nextLong(), any());
            case 5: return x.floor();
            case 6: return x.fault();
            case 7: return x.drift(any(), any());
            case 8: return x.where(any(), any(), any(), any());
            case 9: return x.hill(any(), any());
            case 10: return x.hills(any(), any(), any());
            case 11: return x.date(any(), any(), any());
            case 12: return x.needle(any(), any(), any());
            case 13: return x.told(any(), any());
            case 14: return x.nearest(any(), any(), any());
            case 15: return x.fits(any());
            case 16: return x.odds(any(), any());
            case 17: return x.belong(any(), any());
            case 18: return x.made(any(), any(), any());
            case 19: return x.pace(any(), any(), any());
            default: return answerMore(call);
        }
    }

    private int answerMore(int call) {
        switch (call) {
            case 20: return x.even(any(), any(), any());
            case 21: return x.bend(any(), any(), any());
            case 22: return x.people(any(), any(), any());
            case 23: return x.against(any(), any(), any());
            case 24: return x.turn(any());
            case 25: return x.says(any());
            case 26: return x.wandered(any(), any(), any());
            case 27: return x.leans(any(), any(), any());
            case 28: return x.orders();
            case 29: return x.chance();
            case 30: return x.bore();
            case 31: return x.next(any(), any());
            case 32: return x.image(any());
            case 33: return x.restore(any());
            case 34: return x.kind(any());
            case 35: return x.as(any(), any());
            case 36: return x.ask(any(), any());
            case 37: return x.trace(any());
            case 38: return x.count(any());
            default: return x.status();
        }
    }
}
