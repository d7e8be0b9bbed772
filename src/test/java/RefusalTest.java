import java.util.ArrayList;
import java.util.List;
import java.util.function.Consumer;
import java.util.function.Supplier;
import java.util.function.ToIntFunction;

/**
 * Refused calls (BAD, or a FAILURE), promise by promise: each answers what is due, and leaves all as it was. A mixer
 * that refuses a call is looked through afterwards, and so is its twin that never got the call.
 */
public final class RefusalTest {
    private static final boolean TRACK = false;
    private static final boolean CURVE = true;
    private static final boolean[] SIDES = {TRACK, CURVE};
    private static final int BAD = -1;
    private static final int MISSING = -11;
    private static final int OUTSIDE = -12;
    private static final int CAST = -13;
    private static final int STORE = -14;
    private static final int BY_ZERO = -15;
    private static final int GAIN = 0;
    private static final int FOLD = 1;
    private static final int CRUSH = 2;
    private static final int LEAST = Integer.MIN_VALUE;
    private static final int MOST = Integer.MAX_VALUE;
    private static final long[] NO_FLOATS = {0x7f800000L, 0xff800000L, 0x7fc00000L, 0xff800001L};
    private static final long[] NO_DOUBLES = {0x7ff0000000000000L, 0xfff0000000000000L, 0x7ff8000000000000L, -1L};

    private static int wrong = 0;
    private static int refusals = 0;

    private static long f(float number) {
        return Float.floatToRawIntBits(number);
    }

    private static long d(double number) {
        return Double.doubleToRawLongBits(number);
    }

    private static void refused(Supplier<LoopMixer> made, String call, int want, ToIntFunction<LoopMixer> asked) {
        refusals++;
        LoopMixer x = made.get();
        LoopMixer twin = made.get();
        int got = asked.applyAsInt(x);
        if (got != want) {
            wrong++;
            System.out.println("[" + call + "] answered " + got + ", due is " + want);
        }
        List<String> after = seen(x);
        List<String> before = seen(twin);
        for (int k = 0; k < before.size(); k++) {
            if (!after.get(k).equals(before.get(k))) {
                wrong++;
                System.out.println("[" + call + "] leaves " + after.get(k) + ", was " + before.get(k));
                return;
            }
        }
    }

    private static void refused(String call, int want, ToIntFunction<LoopMixer> asked) {
        refused(RefusalTest::ready, call, want, asked);
    }

    /**
     * Tracks and curves: 0 and 1 share a row, 2 has one of no items, 3 one with both zeros, 4 and 5 have none.
     * Effects 3 and 4 are not there. Rack 0 is for gains and has a bare place, 1 is full of folds, 2 is not there.
     * Head 2 has no track and was the latest to play, head 3 is not set.
     */
    private static LoopMixer ready() {
        LoopMixer x = new LoopMixer();
        setRows(x);
        x.effect(0, GAIN, d(1.5));
        x.effect(1, FOLD, d(0.75));
        x.effect(2, CRUSH, d(4.0));
        x.effect(5, GAIN, d(-1.0));
        x.rack(0, GAIN);
        x.hang(0, 0, 0);
        x.hang(0, 1, 1);
        x.rack(1, FOLD);
        for (int i = 0; i < 3; i++) {
            x.hang(1, i, 1);
        }
        x.head(0, 0, 0, 1, d(0.75));
        x.head(1, 3, -1, -1, d(-0.5));
        x.head(2, 4, -1, -1, d(1.0));
        x.play(0, 5);
        x.play(1, 2);
        x.play(2, 1);
        x.clock(123456789, 0);
        x.get(TRACK, 0, 1);
        return x;
    }

    private static void setRows(LoopMixer x) {
        float[] samples = {1.5f, -2.5f, 4.0f, 0.0f, -0.0f, 5.5f};
        double[] factors = {0.5, -2.0, 0.25, 0.0, -0.0, 7.5};
        for (boolean curve : SIDES) {
            x.row(curve, 0, 3);
            x.share(curve, 0, 1);
            x.row(curve, 2, 0);
            x.row(curve, 3, 3);
            for (int i = 0; i < 6; i++) {
                x.set(curve, i < 3 ? 0 : 3, i % 3, curve ? d(factors[i]) : f(samples[i]));
            }
        }
    }

    private static LoopMixer readyWithCrush() {
        LoopMixer x = ready();
        x.rack(2, CRUSH);
        x.hang(2, 0, 2);
        return x;
    }

    /** Head 3 has done two steps by track 5, curve 5 and rack 2, and is at 1.5 when one of these is spoilt. */
    private static LoopMixer readyToFail(Consumer<LoopMixer> spoilt) {
        LoopMixer x = ready();
        x.share(TRACK, 0, 5);
        x.share(CURVE, 0, 5);
        x.rack(2, GAIN);
        for (int i = 0; i < 3; i++) {
            x.hang(2, i, 0);
        }
        x.head(3, 5, 5, 2, d(0.75));
        x.play(3, 2);
        spoilt.accept(x);
        x.play(3, 0);
        return x;
    }

    /** The failure is told by failed() alone; play(3, 0) makes that 0 again, as it is for the twin. */
    private static int failingPlay(LoopMixer x, int n, int failure) {
        int steps = x.play(3, n);
        int told = x.failed();
        x.play(3, 0);
        return told == failure ? steps : told;
    }

    // ---- All that can be seen of a mixer. Looking on changes it, so nothing is asked twice.

    private static List<String> seen(LoopMixer x) {
        List<String> all = new ArrayList<>();
        all.add("told " + x.told());
        all.add("failed " + x.failed());
        seeClockAndHeads(x, all);
        seeMix(x, all);
        seeRows(x, all);
        seeEffects(x, all);
        seeSharing(x, all);
        seePlaying(x, all);
        seeRacks(x, all);
        return all;
    }

    private static void see(List<String> all, String what, int answer, LoopMixer x) {
        all.add(what + ": " + answer + ", told " + x.told());
    }

    private static void seeClockAndHeads(LoopMixer x, List<String> all) {
        for (int h = 0; h < 4; h++) {
            see(all, "place of " + h, x.at(h, 0), x);
            see(all, "steps of " + h, x.at(h, 1), x);
        }
        see(all, "clock", x.clock(0, 0), x);
    }

    private static void seeMix(LoopMixer x, List<String> all) {
        for (int i = 0; i < 8; i++) {
            see(all, "mix " + i, x.mix(i, 0), x);
        }
    }

    private static void seeRows(LoopMixer x, List<String> all) {
        for (boolean curve : SIDES) {
            for (int k = 0; k < 6; k++) {
                for (int i = 0; i < 4; i++) {
                    see(all, (curve ? "curve " : "track ") + k + ", item " + i, x.get(curve, k, i), x);
                }
            }
        }
    }

    private static void seeEffects(LoopMixer x, List<String> all) {
        for (int k = 0; k < 6; k++) {
            see(all, "effect " + k, x.make(k, f(1.78125f)), x);
        }
    }

    /** Who has one row with whom: the item that one sets is the item of all that share. */
    private static void seeSharing(LoopMixer x, List<String> all) {
        for (boolean curve : SIDES) {
            for (int k = 0; k < 6; k++) {
                all.add("set of " + k + ": " + x.set(curve, k, 0, curve ? d(k + 1) : f(k + 1)));
            }
            for (int k = 0; k < 6; k++) {
                see(all, "shared by " + k, x.get(curve, k, 0), x);
            }
        }
    }

    private static void seePlaying(LoopMixer x, List<String> all) {
        x.row(TRACK, 4, 2);
        x.set(TRACK, 4, 1, f(100.0f));
        x.hush();
        for (int h = 0; h < 4; h++) {
            all.add("play " + h + ": " + x.play(h, 3) + ", failed " + x.failed());
            see(all, "place then", x.at(h, 0), x);
            seeMix(x, all);
        }
    }

    private static void seeRacks(LoopMixer x, List<String> all) {
        for (int r = 0; r < 3; r++) {
            for (int i = 0; i < 3; i++) {
                for (int kind = CRUSH; kind >= GAIN; kind--) {
                    all.add("rack " + r + ", place " + i + " as " + kind + ": " + x.take(r, i, kind, 5));
                }
                see(all, "rack " + r + ", place " + i, x.make(5, f(1.78125f)), x);
            }
        }
        for (int kind = GAIN; kind <= CRUSH; kind++) {
            x.effect(5, kind, d(1.0));
            for (int r = 0; r < 3; r++) {
                all.add("kind " + kind + " in rack " + r + ": " + x.hang(r, 0, 5));
            }
        }
    }

    // ---- Promises

    private static void row() {
        for (boolean curve : SIDES) {
            for (int k : new int[] {-1, 6, LEAST, MOST}) {
                refused("2: row(" + curve + ", " + k + ", 2)", BAD, x -> x.row(curve, k, 2));
                refused("2: row(" + curve + ", " + k + ", 17)", BAD, x -> x.row(curve, k, 17));
            }
            for (int n : new int[] {-1, 17, LEAST, MOST}) {
                for (int k : new int[] {0, 5}) {
                    refused("2: row(" + curve + ", " + k + ", " + n + ")", BAD, x -> x.row(curve, k, n));
                }
            }
        }
    }

    private static void share() {
        for (boolean curve : SIDES) {
            for (int k : new int[] {-1, 6, LEAST, MOST}) {
                refused("3: share(" + curve + ", " + k + ", 0)", BAD, x -> x.share(curve, k, 0));
                refused("3: share(" + curve + ", 0, " + k + ")", BAD, x -> x.share(curve, 0, k));
                refused("3: share(" + curve + ", 5, " + k + ")", BAD, x -> x.share(curve, 5, k));
                refused("3: share(" + curve + ", both " + k + ")", BAD, x -> x.share(curve, k, k));
            }
        }
    }

    private static void drop() {
        for (boolean curve : SIDES) {
            for (int k : new int[] {-1, 6, LEAST, MOST}) {
                refused("4: drop(" + curve + ", " + k + ")", BAD, x -> x.drop(curve, k));
            }
            refused("4: drop(" + curve + ", 5), which has none", 0, x -> x.drop(curve, 5));
        }
    }

    private static void set() {
        for (boolean curve : SIDES) {
            for (int k : new int[] {-1, 6, LEAST, MOST}) {
                refused("5: set(" + curve + ", " + k + ", ..)", BAD, x -> x.set(curve, k, 0, 1));
            }
            for (long bits : curve ? NO_DOUBLES : NO_FLOATS) {
                String by = Long.toHexString(bits);
                refused("5: set(" + curve + ", 0, 0, " + by + ")", BAD, x -> x.set(curve, 0, 0, bits));
                refused("5: set(" + curve + ", 0, 3, " + by + ")", BAD, x -> x.set(curve, 0, 3, bits));
                refused("5: set(" + curve + ", 5, 0, " + by + ")", BAD, x -> x.set(curve, 5, 0, bits));
            }
            for (int i : new int[] {-1, 3, LEAST, MOST}) {
                refused("5: set(" + curve + ", 0, " + i + ", ..)", OUTSIDE, x -> x.set(curve, 0, i, 1));
                refused("5: set(" + curve + ", 5, " + i + ", ..)", MISSING, x -> x.set(curve, 5, i, 1));
            }
            refused("5: set(" + curve + ", 2, 0, ..)", OUTSIDE, x -> x.set(curve, 2, 0, 1));
            refused("5: set(" + curve + ", 5, 0, ..)", MISSING, x -> x.set(curve, 5, 0, 1));
        }
    }

    private static void get() {
        for (boolean curve : SIDES) {
            for (int k : new int[] {-1, 6, LEAST, MOST}) {
                refused("6: get(" + curve + ", " + k + ", 0)", BAD, x -> x.get(curve, k, 0));
            }
            for (int i : new int[] {-1, 3, LEAST, MOST}) {
                refused("6: get(" + curve + ", 0, " + i + ")", OUTSIDE, x -> x.get(curve, 0, i));
                refused("6: get(" + curve + ", 5, " + i + ")", MISSING, x -> x.get(curve, 5, i));
            }
            refused("6: get(" + curve + ", 2, 0)", OUTSIDE, x -> x.get(curve, 2, 0));
            refused("6: get(" + curve + ", 5, 0)", MISSING, x -> x.get(curve, 5, 0));
        }
    }

    private static void wrap() {
        for (boolean curve : SIDES) {
            for (int k : new int[] {-1, 6, LEAST, MOST}) {
                refused("7: wrap(" + curve + ", " + k + ", 2, 0)", BAD, x -> x.wrap(curve, k, 2, 0));
            }
            for (int i : new int[] {-1, 3, LEAST, MOST}) {
                refused("7: wrap(" + curve + ", 0, " + i + ", 0)", OUTSIDE, x -> x.wrap(curve, 0, i, 0));
                refused("7: wrap(" + curve + ", 0, 0, " + i + ")", OUTSIDE, x -> x.wrap(curve, 0, 0, i));
                refused("7: wrap(" + curve + ", 3, " + i + ", 0)", OUTSIDE, x -> x.wrap(curve, 3, i, 0));
                refused("7: wrap(" + curve + ", 5, " + i + ", 0)", MISSING, x -> x.wrap(curve, 5, i, 0));
            }
            refused("7: wrap(" + curve + ", 2, 0, 0)", OUTSIDE, x -> x.wrap(curve, 2, 0, 0));
            refused("7: wrap(" + curve + ", 5, 0, 0)", MISSING, x -> x.wrap(curve, 5, 0, 0));
            for (int i = 0; i < 3; i++) {
                int of = i;
                refused("7: wrap(" + curve + ", 3, " + i + ", 0)", BY_ZERO, x -> x.wrap(curve, 3, of, 0));
                refused("7: wrap(" + curve + ", 3, " + i + ", 1)", BY_ZERO, x -> x.wrap(curve, 3, of, 1));
            }
        }
    }

    private static void effect() {
        for (int k : new int[] {-1, 6, LEAST, MOST}) {
            refused("8: effect(" + k + ", ..)", BAD, x -> x.effect(k, GAIN, d(2.0)));
        }
        for (int k : new int[] {0, 3}) {
            for (int kind : new int[] {-1, 3, LEAST, MOST}) {
                refused("8: effect(" + k + ", " + kind + ", ..)", BAD, x -> x.effect(k, kind, d(2.0)));
            }
            for (long bits : NO_DOUBLES) {
                refused("8: effect, " + Long.toHexString(bits), BAD, x -> x.effect(k, FOLD, bits));
            }
            for (double amount : new double[] {1000000.0000000001, -1000000.0000000001, 1e300, -1e300}) {
                refused("8: effect, " + amount, BAD, x -> x.effect(k, CRUSH, d(amount)));
            }
        }
    }

    private static void make() {
        for (int k : new int[] {-1, 6, LEAST, MOST}) {
            refused("9: make(" + k + ", ..)", BAD, x -> x.make(k, f(1.0f)));
        }
        for (long bits : NO_FLOATS) {
            refused("9: make(0, " + Long.toHexString(bits) + ")", BAD, x -> x.make(0, bits));
            refused("9: make(3, " + Long.toHexString(bits) + ")", BAD, x -> x.make(3, bits));
        }
        refused("9: make(3, ..)", MISSING, x -> x.make(3, f(1.0f)));
    }

    private static void rack() {
        for (int r : new int[] {-1, 3, LEAST, MOST}) {
            refused("10: rack(" + r + ", GAIN)", BAD, x -> x.rack(r, GAIN));
        }
        for (int kind : new int[] {-1, 3, LEAST, MOST}) {
            refused("10: rack(0, " + kind + ")", BAD, x -> x.rack(0, kind));
            refused("10: rack(2, " + kind + ")", BAD, x -> x.rack(2, kind));
        }
    }

    private static void hang() {
        for (int r : new int[] {-1, 3, LEAST, MOST}) {
            refused("11: hang(" + r + ", 0, 0)", BAD, x -> x.hang(r, 0, 0));
        }
        for (int k : new int[] {-1, 6, LEAST, MOST}) {
            refused("11: hang(0, 0, " + k + ")", BAD, x -> x.hang(0, 0, k));
            refused("11: hang(0, 3, " + k + ")", BAD, x -> x.hang(0, 3, k));
            refused("11: hang(2, 0, " + k + ")", BAD, x -> x.hang(2, 0, k));
        }
        for (int k = 0; k < 6; k++) {
            int of = k;
            refused("11: hang(2, 0, " + k + "), no rack", MISSING, x -> x.hang(2, 0, of));
            refused("11: hang(2, 3, " + k + "), no rack", MISSING, x -> x.hang(2, 3, of));
            for (int i : new int[] {-1, 3, LEAST, MOST}) {
                refused("11: hang(0, " + i + ", " + k + ")", OUTSIDE, x -> x.hang(0, i, of));
                refused("11: hang(1, " + i + ", " + k + ")", OUTSIDE, x -> x.hang(1, i, of));
            }
        }
        for (int i = 0; i < 3; i++) {
            int place = i;
            refused("11: hang(0, " + i + ", a crush)", STORE, x -> x.hang(0, place, 2));
            refused("11: hang(1, " + i + ", a crush)", STORE, x -> x.hang(1, place, 2));
            refused("11: hang(1, " + i + ", a gain)", STORE, x -> x.hang(1, place, 0));
            refused(RefusalTest::readyWithCrush, "11: hang(crushes, a gain)", STORE, x -> x.hang(2, place, 0));
            refused(RefusalTest::readyWithCrush, "11: hang(crushes, a fold)", STORE, x -> x.hang(2, place, 1));
        }
    }

    private static void take() {
        for (int r : new int[] {-1, 3, LEAST, MOST}) {
            refused("12: take(" + r + ", 0, GAIN, 2)", BAD, x -> x.take(r, 0, GAIN, 2));
        }
        for (int kind : new int[] {-1, 3, LEAST, MOST}) {
            refused("12: take(0, 0, " + kind + ", 2)", BAD, x -> x.take(0, 0, kind, 2));
            refused("12: take(0, 2, " + kind + ", 2), a bare place", BAD, x -> x.take(0, 2, kind, 2));
            refused("12: take(0, 3, " + kind + ", 2)", BAD, x -> x.take(0, 3, kind, 2));
            refused("12: take(2, 0, " + kind + ", 2), no rack", BAD, x -> x.take(2, 0, kind, 2));
        }
        for (int k : new int[] {-1, 6, LEAST, MOST}) {
            refused("12: take(0, 0, GAIN, " + k + ")", BAD, x -> x.take(0, 0, GAIN, k));
            refused("12: take(0, 0, CRUSH, " + k + ")", BAD, x -> x.take(0, 0, CRUSH, k));
            refused("12: take(0, 3, GAIN, " + k + ")", BAD, x -> x.take(0, 3, GAIN, k));
            refused("12: take(2, 0, GAIN, " + k + "), no rack", BAD, x -> x.take(2, 0, GAIN, k));
        }
        for (int kind = GAIN; kind <= CRUSH; kind++) {
            int as = kind;
            refused("12: take(2, 0, " + kind + ", 2), no rack", MISSING, x -> x.take(2, 0, as, 2));
            refused("12: take(2, 3, " + kind + ", 2), no rack", MISSING, x -> x.take(2, 3, as, 2));
            for (int i : new int[] {-1, 3, LEAST, MOST}) {
                refused("12: take(0, " + i + ", " + kind + ", 2)", OUTSIDE, x -> x.take(0, i, as, 2));
                refused("12: take(1, " + i + ", " + kind + ", 2)", OUTSIDE, x -> x.take(1, i, as, 2));
            }
        }
        for (int k = 1; k < 4; k++) {
            int to = k;
            refused("12: a gain as a fold to " + k, CAST, x -> x.take(0, 0, FOLD, to));
            refused("12: a gain as a crush to " + k, CAST, x -> x.take(0, 0, CRUSH, to));
            refused("12: a fold as a crush to " + k, CAST, x -> x.take(0, 1, CRUSH, to));
            refused(RefusalTest::readyWithCrush, "12: a crush as a gain to " + k, CAST, x -> x.take(2, 0, GAIN, to));
            refused(RefusalTest::readyWithCrush, "12: a crush as a fold to " + k, CAST, x -> x.take(2, 0, FOLD, to));
        }
    }

    private static void head() {
        for (int h : new int[] {-1, 4, LEAST, MOST}) {
            refused("13: head(" + h + ", ..)", BAD, x -> x.head(h, 0, -1, -1, d(1.0)));
        }
        for (int h : new int[] {0, 3}) {
            for (int k : new int[] {-2, 6, LEAST, MOST}) {
                refused("13: head, track " + k, BAD, x -> x.head(h, k, -1, -1, d(1.0)));
                refused("13: head, curve " + k, BAD, x -> x.head(h, 3, k, -1, d(1.0)));
                refused("13: head, rack " + k, BAD, x -> x.head(h, 3, -1, k, d(1.0)));
            }
            refused("13: head, track -1", BAD, x -> x.head(h, -1, -1, -1, d(1.0)));
            refused("13: head, rack 3", BAD, x -> x.head(h, 3, -1, 3, d(1.0)));
            for (long bits : NO_DOUBLES) {
                refused("13: head, " + Long.toHexString(bits), BAD, x -> x.head(h, 3, -1, -1, bits));
            }
            for (double rate : new double[] {64.00000000000001, -64.00000000000001, 1e300, -1e300}) {
                refused("13: head, " + rate, BAD, x -> x.head(h, 3, -1, -1, d(rate)));
            }
        }
    }

    private static void play() {
        for (int h : new int[] {-1, 3, 4, LEAST, MOST}) {
            refused("14: play(" + h + ", 0)", BAD, x -> x.play(h, 0));
            refused("14: play(" + h + ", 1)", BAD, x -> x.play(h, 1));
        }
        for (int n : new int[] {-1, 65, LEAST, MOST}) {
            for (int h = 0; h < 4; h++) {
                int of = h;
                refused("14: play(" + h + ", " + n + ")", BAD, x -> x.play(of, n));
            }
        }
    }

    private static void failingSteps() {
        failing("no track", MISSING, x -> x.drop(TRACK, 5));
        failing("no item 1 of the track", OUTSIDE, x -> x.row(TRACK, 5, 1));
        failing("no items of the track", OUTSIDE, x -> x.row(TRACK, 5, 0));
        failing("no curve", MISSING, x -> x.drop(CURVE, 5));
        failing("no items of the curve", OUTSIDE, x -> x.row(CURVE, 5, 0));
        failing("a rack of bare places", MISSING, x -> x.rack(2, CRUSH));
        refused(RefusalTest::readyWithoutRack, "14: play(3, 64), no rack", 0, x -> failingPlay(x, 64, MISSING));
        for (int i = 0; i < 3; i++) {
            int bare = i;
            failing("bare place " + i, MISSING, x -> x.hang(2, bare, 3));
        }
    }

    /** No rack ever goes away again: only a head that has not done a step can have none. */
    private static LoopMixer readyWithoutRack() {
        LoopMixer x = ready();
        x.head(3, 0, 0, 2, d(0.75));
        x.play(3, 0);
        return x;
    }

    private static void failing(String why, int failure, Consumer<LoopMixer> spoilt) {
        for (int n : new int[] {1, 2, 64}) {
            String call = "14: play(3, " + n + "), " + why;
            refused(() -> readyToFail(spoilt), call, 0, x -> failingPlay(x, n, failure));
        }
    }

    private static void mix() {
        for (int how = -1; how < 5; how++) {
            int as = how;
            for (int i : new int[] {-1, 8, LEAST, MOST}) {
                refused("16: mix(" + i + ", " + how + ")", BAD, x -> x.mix(i, as));
            }
        }
        for (int how : new int[] {-1, 4, LEAST, MOST}) {
            refused("16: mix(0, " + how + ")", BAD, x -> x.mix(0, how));
        }
    }

    private static void at() {
        for (int what = -1; what < 3; what++) {
            int of = what;
            for (int h : new int[] {-1, 3, 4, LEAST, MOST}) {
                refused("18: at(" + h + ", " + what + ")", BAD, x -> x.at(h, of));
            }
        }
        for (int what : new int[] {-1, 2, LEAST, MOST}) {
            refused("18: at(0, " + what + ")", BAD, x -> x.at(0, what));
        }
    }

    private static void clock() {
        for (int how : new int[] {-1, 6, LEAST, MOST}) {
            refused("19: clock(1, " + how + ")", BAD, x -> x.clock(1, how));
            refused("19: clock(least, " + how + ")", BAD, x -> x.clock(Long.MIN_VALUE, how));
        }
    }

    public static void main(String[] args) {
        row();
        share();
        drop();
        set();
        get();
        wrap();
        effect();
        make();
        rack();
        hang();
        take();
        head();
        play();
        failingSteps();
        mix();
        at();
        clock();
        System.out.println(refusals + " refused calls, " + wrong + " not as due");
        if (wrong != 0) {
            System.exit(1);
        }
    }
}
