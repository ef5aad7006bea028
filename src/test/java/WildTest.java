import java.util.ArrayList;
import java.util.List;

/** Wild numbers: whatever is asked, nothing is thrown, a refusal leaves all as it was, and the same calls answer the same. */
public final class WildTest {
    private static final int[] WILD = {Integer.MIN_VALUE, Integer.MIN_VALUE + 1, -10000, -101, -14, -12, -9, -4, -1, 0, 1, 2, 3, 4, 5, 6, 7, 8, 9, 10, 11, 12, 13, 14,
        15, 19, 20, 21, 39, 40, 41, 60, 61, 99, 100, 199, 200, 201, 499, 500, 501, 511, 512, 999, 1000, 9998, 9999, 10000, 99999, 100000, 1 << 30, Integer.MAX_VALUE};
    private static long seed = 1;
    private static int wrong = 0;

    private static int some(int n) {
        seed = seed * 6364136223846793005L + 1442695040888963407L;
        return (int) Math.floorMod(seed >>> 33, (long) n);
    }

    private static int wild() {
        return some(3) == 0 ? WILD[some(WILD.length)] : some(13);
    }

    /** All that can be asked without a change. */
    private static List<Integer> told(RoundAndUp x) {
        List<Integer> all = new ArrayList<>();
        for (int k = 0; k < 20; k++) {
            for (int what = 0; what < 7; what++) {
                all.add(x.animalOf(k, what));
                all.add(x.childOf(k, what));
                all.add(x.row(k, what));
                all.add(x.item(what, 0, k));
                all.add(x.taken(what, k));
            }
            all.add(x.many(k));
            all.add(x.trace(k));
            all.add(x.fits(k));
            all.add(x.liar(k));
            all.add(x.high(k));
        }
        return all;
    }

    private static long call(RoundAndUp x, int which, int a, int b, int c, int d) {
        switch (which) {
            case 0: return x.animal(a, b, c, d);
            case 1: return x.animalOf(a, b);
            case 2: return x.change(a, b, c);
            case 3: return x.paint(a, b);
            case 4: return x.level(a);
            case 5: return x.turn(a);
            case 6: return x.slip(a, b);
            case 7: return x.feed((long) a << 32 | b, c);
            case 8: return x.height(a, b);
            case 9: return x.high(a);
            case 10: return x.clash(a);
            case 11: return x.nextClash(a);
            case 12: return x.quiet(a, b);
            case 13: return x.rings(a, b, c);
            case 14: return x.firstRing(a, b);
            case 15: return x.mostRings(a, b);
            case 16: return x.levelFor(a, b);
            case 17: return x.phases(a);
            case 18: return x.tune(a);
            case 19: return x.tuneAll();
            case 20: return x.organ(a, b, c);
            case 21: return x.together(a, b);
            case 22: return x.slipped(a, b);
            case 23: return x.child(a, b);
            case 24: return x.childOf(a, b);
            case 25: return x.coins(a, b);
            case 26: return x.seats();
            case 27: return x.seat(a);
            case 28: return x.photo(a, b, c);
            case 29: return x.fits(a);
            case 30: return x.liar(a);
            case 31: return x.prove(a, b, c);
            case 32: return x.row(a, b);
            case 33: return x.judge(a);
            case 34: return x.sheet(a, b, c);
            case 35: return x.write(a, b, c);
            case 36: return x.shelf(a, b, c);
            case 37: return x.taken(a, b);
            case 38: return x.trace(a);
            case 39: return x.many(a);
            case 40: return x.again();
            // Those from here on may answer below 0 and have done something all the same.
            case 41: return x.item(a, b, c);
            case 42: return x.alterRow(a, b, c);
            case 43: return x.sets(a, b, c);
            case 44: return x.act(a, b, c);
            case 45: return x.rules();
            case 46: return x.ride();
            case 47: return some(20) == 0 ? x.away() : 0;
            case 48: return some(20) == 0 ? x.burn() : 0;
            default: return some(9) == 0 ? x.keep() : 0;
        }
    }

    private static long run(int first) {
        seed = first;
        long sum = 0;
        RoundAndUp x = new RoundAndUp();
        for (int k = 0; k < 400; k++) {
            int which = some(50), a = wild(), b = wild(), c = wild(), d = wild();
            List<Integer> before = k % 4 == 0 && which <= 40 ? told(x) : null;
            long got = call(x, which, a, b, c, d);
            if (before != null && got < 0 && !before.equals(told(x))) {
                wrong++;
                System.out.println("run " + first + ": call " + which + " of " + a + ", " + b + ", " + c + ", " + d + " refused, and something is another");
            }
            sum = sum * 31 + got;
        }
        return sum;
    }

    public static void main(String[] args) {
        for (int first = 1; first <= 300; first++) {
            if (run(first) != run(first)) {
                wrong++;
                System.out.println("run " + first + " answers another way the second time");
            }
        }
        System.out.println(wrong == 0 ? "wild numbers do no harm" : wrong + " wrong");
        if (wrong != 0) {
            System.exit(1);
        }
    }
}
