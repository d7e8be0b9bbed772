/**
 * The sentences of the document that name a boundary case, in its order: each has a test of its own, under the
 * sentence's words. What refused calls leave as it was is RefusalTest's.
 */
public final class BoundaryTest {
    private static final boolean TRACK = false;
    private static final boolean CURVE = true;
    private static final boolean[] SIDES = {TRACK, CURVE};
    private static final int BAD = -1;
    private static final int MISSING = -11;
    private static final int OUTSIDE = -12;
    private static final int CAST = -13;
    private static final int STORE = -14;
    private static final int BY_ZERO = -15;
    private static final int GAIN = 0;
    private static final int FOLD = 1;
    private static final int CRUSH = 2;
    private static final float MAX = 0x1.fffffep127f;
    private static final float MIN = 0x1p-149f;

    private static int wrong = 0;
    private static int checks = 0;
    private static int sentences = 0;
    private static String words = "";

    private static void sentence(String ofTheDocument, Runnable test) {
        words = ofTheDocument;
        int before = checks;
        try {
            test.run();
        } catch (RuntimeException thrown) {
            wrong++;
            System.out.println("[" + words + "] threw " + thrown);
        }
        if (checks == before) {
            wrong++;
            System.out.println("[" + words + "] has no check");
        }
        sentences++;
    }

    private static void due(String what, long got, long want) {
        checks++;
        if (got != want) {
            wrong++;
            System.out.println("[" + words + "] " + what + " answered " + got + ", due is " + want);
        }
    }

    private static void dueTold(String what, LoopMixer x, int answer, long want) {
        due(what, answer, 1);
        due(what + ", told", x.told(), want);
    }

    private static long f(float number) {
        return Float.floatToRawIntBits(number);
    }

    private static long d(double number) {
        return Double.doubleToRawLongBits(number);
    }

    private static void done(int answer) {
        due("a call that makes ready", answer, 1);
    }

    private static void setTrack(LoopMixer x, int k, float... items) {
        done(x.row(TRACK, k, items.length));
        for (int i = 0; i < items.length; i++) {
            done(x.set(TRACK, k, i, f(items[i])));
        }
    }

    private static void setCurve(LoopMixer x, int k, double... items) {
        done(x.row(CURVE, k, items.length));
        for (int i = 0; i < items.length; i++) {
            done(x.set(CURVE, k, i, d(items[i])));
        }
    }

    private static LoopMixer withTrack(float... items) {
        LoopMixer x = new LoopMixer();
        setTrack(x, 0, items);
        return x;
    }

    /** A mixer whose head 0 plays track 0 alone. */
    private static LoopMixer withHead(double rate, float... items) {
        LoopMixer x = withTrack(items);
        done(x.head(0, 0, -1, -1, d(rate)));
        return x;
    }

    private static void hangAll(LoopMixer x, int r, int kind, int... effects) {
        done(x.rack(r, kind));
        for (int i = 0; i < effects.length; i++) {
            done(x.hang(r, i, effects[i]));
        }
    }

    private static void dueItem(String what, LoopMixer x, boolean curve, int k, int i, long bits) {
        dueTold(what, x, x.get(curve, k, i), bits);
    }

    private static void dueMix(String what, LoopMixer x, float... items) {
        for (int i = 0; i < 8; i++) {
            dueTold(what + ": mix " + i, x, x.mix(i, 0), f(i < items.length ? items[i] : 0.0f));
        }
    }

    private static void dueHead(String what, LoopMixer x, int h, double place, long steps) {
        dueTold(what + ": place", x, x.at(h, 0), d(place));
        dueTold(what + ": steps", x, x.at(h, 1), steps);
    }

    private static void dueEnd(String what, LoopMixer x, int h, int n, int steps, int failure) {
        due(what, x.play(h, n), steps);
        due(what + ", failed", x.failed(), failure);
    }

    private static void dueMade(int kind, double amount, float sample, float want) {
        LoopMixer x = new LoopMixer();
        done(x.effect(0, kind, d(amount)));
        dueTold("kind " + kind + ", " + amount + " of " + sample, x, x.make(0, f(sample)), f(want));
    }

    /** By a curve, every double can be held: 1.0f times it, and that much more than 0.0 in the mix. */
    private static void dueHeld(double number, float want) {
        LoopMixer x = withTrack(1.0f);
        setCurve(x, 0, number);
        done(x.head(0, 0, 0, -1, d(0.0)));
        due("play", x.play(0, 1), 1);
        dueTold(number + " held", x, x.mix(0, 0), f(want));
    }

    /** Halved before the mix holds it once more, what was not held by the curve would show. */
    private static void dueHeldThenHalved(float sample, double factor, float want) {
        LoopMixer x = withTrack(sample);
        setCurve(x, 0, factor);
        done(x.effect(0, GAIN, d(0.5)));
        done(x.effect(1, GAIN, d(1.0)));
        hangAll(x, 0, GAIN, 0, 1, 1);
        done(x.head(0, 0, 0, 0, d(0.0)));
        due("play", x.play(0, 1), 1);
        dueTold(sample + " times " + factor + " held, halved", x, x.mix(0, 0), f(want));
    }

    // ---- What it is

    private static void lowest32Count() {
        LoopMixer x = withTrack(0.0f);
        done(x.effect(0, GAIN, d(1.0)));
        for (long top : new long[] {0L, 1L, 0x7ff00000L, 0x7fffffffL, -1L, 0x80000000L}) {
            long positive = top << 32 | 0x3fc00000L;
            long negative = top << 32 | 0xbfc00000L;
            done(x.set(TRACK, 0, 0, positive));
            dueItem("1.5f below " + top, x, TRACK, 0, 0, f(1.5f));
            done(x.set(TRACK, 0, 0, negative));
            dueItem("-1.5f below " + top, x, TRACK, 0, 0, f(-1.5f));
            dueTold("make, below " + top, x, x.make(0, positive), f(1.5f));
            due("set, endless below " + top, x.set(TRACK, 0, 0, top << 32 | 0x7f800000L), BAD);
            due("make, endless below " + top, x.make(0, top << 32 | 0xff800000L), BAD);
        }
    }

    private static void floatsAreToldAsInts() {
        LoopMixer x = withHead(1.0, -1.5f, -MIN, -0.0f);
        done(x.effect(0, GAIN, d(1.0)));
        dueItem("-1.5f", x, TRACK, 0, 0, 0xffffffffbfc00000L);
        dueItem("the smallest below 0.0", x, TRACK, 0, 1, 0xffffffff80000001L);
        dueItem("-0.0f", x, TRACK, 0, 2, 0xffffffff80000000L);
        dueTold("make", x, x.make(0, 0xbfc00000L), 0xffffffffbfc00000L);
        due("play", x.play(0, 1), 1);
        dueTold("mix", x, x.mix(0, 0), 0xffffffffbfc00000L);
        dueTold("clock", x, x.clock(-1, 1), 0xffffffffbf800000L);
    }

    private static void all64OfADoubleCount() {
        LoopMixer x = withTrack(0.0f, 1.0f, 2.0f);
        done(x.row(CURVE, 0, 1));
        for (long bits : new long[] {0x3ff0000000000001L, 0x7f800000L, 0x3ff000007fc00000L, 0xbff00000ff800001L,
            0x00000001_00000000L, Long.MIN_VALUE}) {
            done(x.set(CURVE, 0, 0, bits));
            dueItem("curve", x, CURVE, 0, 0, bits);
        }
        due("amount", x.effect(0, GAIN, 0x40000000_7f800000L), 1);
        dueTold("amount, of which the low half counts", x, x.make(0, f(1.0f)), f(2.0f + 4 * 0x1p-22f));
        due("rate", x.head(0, 0, -1, -1, 0x3ff00000_7fc00000L), 1);
        due("play", x.play(0, 1), 1);
        dueTold("rate", x, x.at(0, 0), 0x3ff00000_7fc00000L);
    }

    private static void endlessFloatsAreBad() {
        LoopMixer x = withTrack(0.0f);
        done(x.effect(0, GAIN, d(1.0)));
        due("set, above all", x.set(TRACK, 0, 0, 0x7f800000L), BAD);
        due("set, below all", x.set(TRACK, 0, 0, 0xffffffffff800000L), BAD);
        due("make, above all", x.make(0, 0x7f800000L), BAD);
        due("make, below all", x.make(0, 0xffffffffff800000L), BAD);
        for (float greatest : new float[] {MAX, -MAX}) {
            due("set, greatest", x.set(TRACK, 0, 0, f(greatest)), 1);
            dueItem("set, greatest", x, TRACK, 0, 0, f(greatest));
            dueTold("make, greatest", x, x.make(0, f(greatest)), f(greatest));
        }
    }

    private static void endlessDoublesAreBad() {
        LoopMixer x = withTrack(0.0f);
        done(x.row(CURVE, 0, 1));
        for (long endless : new long[] {0x7ff0000000000000L, 0xfff0000000000000L}) {
            due("set", x.set(CURVE, 0, 0, endless), BAD);
            for (int kind = GAIN; kind <= CRUSH; kind++) {
                due("effect", x.effect(0, kind, endless), BAD);
            }
            due("head", x.head(0, 0, -1, -1, endless), BAD);
        }
        for (long greatest : new long[] {0x7fefffffffffffffL, 0xffefffffffffffffL}) {
            due("set, greatest", x.set(CURVE, 0, 0, greatest), 1);
            dueItem("set, greatest", x, CURVE, 0, 0, greatest);
        }
    }

    private static void noFloatNumbersAreBad() {
        LoopMixer x = withTrack(0.0f);
        done(x.effect(0, GAIN, d(1.0)));
        for (long none : new long[] {0x7f800001L, 0x7fbfffffL, 0x7fc00000L, 0x7fffffffL}) {
            due("set", x.set(TRACK, 0, 0, none), BAD);
            due("set, with a sign", x.set(TRACK, 0, 0, none | 0x80000000L), BAD);
            due("make", x.make(0, none), BAD);
            due("make, with a sign", x.make(0, none | 0x80000000L), BAD);
        }
    }

    private static void noDoubleNumbersAreBad() {
        LoopMixer x = withTrack(0.0f);
        done(x.row(CURVE, 0, 1));
        for (long none : new long[] {0x7ff0000000000001L, 0x7ff7ffffffffffffL, 0x7ff8000000000000L, Long.MAX_VALUE}) {
            for (long bits : new long[] {none, none | Long.MIN_VALUE}) {
                due("set", x.set(CURVE, 0, 0, bits), BAD);
                due("effect", x.effect(0, FOLD, bits), BAD);
                due("head", x.head(0, 0, -1, -1, bits), BAD);
            }
        }
    }

    private static void noneEverIsEndlessOrNone() {
        LoopMixer x = new LoopMixer();
        setTrack(x, 0, MAX, -MAX, MAX);
        setCurve(x, 0, Double.MAX_VALUE, -Double.MAX_VALUE);
        done(x.effect(0, GAIN, d(1000000.0)));
        hangAll(x, 0, GAIN, 0, 0, 0);
        done(x.head(0, 0, 0, 0, d(64.0)));
        done(x.head(1, 0, -1, -1, d(-64.0)));
        for (int round = 0; round < 4; round++) {
            due("play", x.play(0, 64), 64);
            due("play", x.play(1, 64), 64);
            for (int i = 0; i < 8; i++) {
                done(x.mix(i, 0));
                due("a number " + x.told(), Float.isFinite(Float.intBitsToFloat((int) x.told())) ? 1 : 0, 1);
            }
            for (int h = 0; h < 2; h++) {
                done(x.at(h, 0));
                due("a number " + x.told(), Double.isFinite(Double.longBitsToDouble(x.told())) ? 1 : 0, 1);
            }
        }
    }

    private static void the512thCallIsAnswered() {
        LoopMixer x = new LoopMixer();
        for (int calls = 0; calls < 511; calls++) {
            x.clock(1, 0);
        }
        due("told, the 512th", x.told(), 511);
        x = new LoopMixer();
        x.row(TRACK, 0, 16);
        x.head(0, 0, -1, -1, d(1.0));
        for (int calls = 2; calls < 510; calls++) {
            x.play(0, 64);
        }
        x.at(0, 1);
        due("told, the 512th", x.told(), 508 * 64);
        x = new LoopMixer();
        for (int calls = 0; calls < 510; calls++) {
            x.row(TRACK, calls % 6, 16);
        }
        due("set, the 511th", x.set(TRACK, 5, 15, 1), 1);
        due("get, the 512th", x.get(TRACK, 5, 15), 1);
    }

    // ---- Terms: HELD

    private static void heldIsTheNearest() {
        dueHeld(1.0 + 0x1p-24 - 0x1p-52, 1.0f);
        dueHeld(1.0 + 0x1p-24 + 0x1p-52, 1.0f + 0x1p-23f);
        dueHeld(-(1.0 + 0x1p-24 + 0x1p-52), -(1.0f + 0x1p-23f));
        dueHeld(1.0 - 0x1p-25 + 0x1p-53, 1.0f);
        dueHeld(1.0 - 0x1p-25 - 0x1p-53, 1.0f - 0x1p-24f);
        dueHeld(0x1.fffffep127 - 0x1p75, MAX);
        dueHeld(0x1.fffffdp127 - 0x1p75, 0x1.fffffcp127f);
    }

    private static void heldIsTheEvenOneOfTwo() {
        dueHeld(1.0 + 0x1p-24, 1.0f);
        dueHeld(1.0 + 3 * 0x1p-24, 1.0f + 0x1p-22f);
        dueHeld(-1.0 - 0x1p-24, -1.0f);
        dueHeld(-1.0 - 3 * 0x1p-24, -1.0f - 0x1p-22f);
        dueHeld(16777217.0, 16777216.0f);
        dueHeld(16777219.0, 16777220.0f);
        dueHeld(0x1.fffffdp127, 0x1.fffffcp127f);
    }

    private static void heldNextToZero() {
        dueHeld(0x1p-150, 0.0f);
        dueHeld(0x1.0000000000001p-150, MIN);
        dueHeld(3 * 0x1p-150, 2 * MIN);
        dueHeld(Double.MIN_VALUE, 0.0f);
        dueHeld(0x1.fffffffffffffp-127, 0x1p-126f);
        dueHeld(-0x1.0000000000001p-150, -MIN);
        dueMade(GAIN, 0.5, -MIN, -0.0f);
        dueMade(GAIN, -0.5, MIN, -0.0f);
    }

    private static void heldBeyondTheGreatest() {
        for (double beyond : new double[] {0x1.fffffe0000001p127, 0x1.ffffffp127, 0x1.ffffff0000001p127, 0x1p128,
            Double.MAX_VALUE}) {
            dueHeldThenHalved(1.0f, beyond, MAX / 2);
            dueHeldThenHalved(1.0f, -beyond, -MAX / 2);
            dueHeld(beyond, MAX);
            dueHeld(-beyond, -MAX);
        }
        for (double amount : new double[] {1.0, 1.0000000000000002, 1.00000003, 1.00000006, 2.0, 1000000.0}) {
            dueMade(GAIN, amount, MAX, MAX);
            dueMade(GAIN, -amount, MAX, -MAX);
        }
        dueHeld(0x1.fffffep127, MAX);
        dueHeld(-0x1.fffffep127, -MAX);
    }

    private static void heldAfterTheCurve() {
        for (double factor : new double[] {Double.MAX_VALUE, 1.5, 1.0000000000000002}) {
            dueHeldThenHalved(MAX, factor, MAX / 2);
            dueHeldThenHalved(-MAX, factor, -MAX / 2);
            dueHeldThenHalved(MAX, -factor, -MAX / 2);
            dueHeldThenHalved(-MAX, -factor, MAX / 2);
        }
    }

    private static void heldInTheMix() {
        LoopMixer x = withHead(1.0, MAX, -MAX, 16777216.0f, 0x1p103f);
        due("play", x.play(0, 4), 4);
        setTrack(x, 0, MAX, -MAX, 1.0f, 0x1p103f);
        done(x.head(0, 0, -1, -1, d(1.0)));
        due("play", x.play(0, 4), 4);
        dueMix("sums", x, MAX, -MAX, 16777216.0f, 0x1p104f);
        setTrack(x, 0, -MAX, MAX, 3.0f, MAX);
        done(x.head(0, 0, -1, -1, d(1.0)));
        due("play", x.play(0, 4), 4);
        dueMix("back, even, and beyond", x, 0.0f, 0.0f, 16777220.0f, MAX);
    }

    // ---- Terms: TRACKS and CURVES

    private static void rowsAre0To5() {
        for (boolean curve : SIDES) {
            LoopMixer x = new LoopMixer();
            for (int k = 0; k < 6; k++) {
                done(x.row(curve, k, k + 1));
                done(x.set(curve, k, k, k + 1));
            }
            for (int k = 0; k < 6; k++) {
                dueItem("the last of " + k, x, curve, k, k, k + 1);
                due("no more in " + k, x.get(curve, k, k + 1), OUTSIDE);
            }
            for (int k : new int[] {-1, 6, Integer.MIN_VALUE, Integer.MAX_VALUE}) {
                due("row " + k, x.row(curve, k, 1), BAD);
                due("share from " + k, x.share(curve, k, 0), BAD);
                due("share to " + k, x.share(curve, 0, k), BAD);
                due("drop " + k, x.drop(curve, k), BAD);
                due("set " + k, x.set(curve, k, 0, 0), BAD);
                due("get " + k, x.get(curve, k, 0), BAD);
                due("wrap " + k, x.wrap(curve, k, 0, 0), BAD);
            }
        }
    }

    private static void tracksAreNoCurves() {
        for (boolean curve : SIDES) {
            LoopMixer x = new LoopMixer();
            done(x.row(curve, 3, 2));
            due("none on the other side", x.get(!curve, 3, 0), MISSING);
            due("none to share", x.share(!curve, 3, 4), 0);
            due("none to drop", x.drop(!curve, 3), 0);
            due("its own stays", x.get(curve, 3, 1), 1);
        }
    }

    private static void aRowOf0Items() {
        for (boolean curve : SIDES) {
            LoopMixer x = new LoopMixer();
            due("row", x.row(curve, 0, 0), 1);
            for (int i = -1; i < 2; i++) {
                due("get " + i, x.get(curve, 0, i), OUTSIDE);
                due("set " + i, x.set(curve, 0, i, 0), OUTSIDE);
                due("wrap " + i, x.wrap(curve, 0, i, i), OUTSIDE);
            }
            due("it is there to share", x.share(curve, 0, 1), 1);
            due("shared", x.get(curve, 1, 0), OUTSIDE);
            due("it is there to drop", x.drop(curve, 0), 1);
            due("dropped", x.get(curve, 0, 0), MISSING);
        }
    }

    private static void aRowOf16Items() {
        for (boolean curve : SIDES) {
            LoopMixer x = new LoopMixer();
            due("row", x.row(curve, 0, 16), 1);
            for (int i = 0; i < 16; i++) {
                due("set " + i, x.set(curve, 0, i, 100 + i), 1);
            }
            for (int i = 0; i < 16; i++) {
                dueItem("get " + i, x, curve, 0, i, 100 + i);
            }
            due("get 16", x.get(curve, 0, 16), OUTSIDE);
            due("set 16", x.set(curve, 0, 16, 0), OUTSIDE);
        }
    }

    private static void noneAtFirst() {
        LoopMixer x = new LoopMixer();
        for (boolean curve : SIDES) {
            for (int k = 0; k < 6; k++) {
                due("get", x.get(curve, k, 0), MISSING);
                due("set", x.set(curve, k, 0, 0), MISSING);
                due("wrap", x.wrap(curve, k, 0, 0), MISSING);
                due("share", x.share(curve, k, k), 0);
                due("drop", x.drop(curve, k), 0);
            }
        }
    }

    private static void itemsAre0AtFirst() {
        for (boolean curve : SIDES) {
            LoopMixer x = new LoopMixer();
            done(x.clock(7, 0));
            done(x.row(curve, 0, 16));
            for (int i = 0; i < 16; i++) {
                dueItem("item " + i, x, curve, 0, i, 0);
                done(x.set(curve, 0, i, 5));
            }
            done(x.row(curve, 0, 16));
            for (int i = 0; i < 16; i++) {
                dueItem("item " + i + " of the next row", x, curve, 0, i, 0);
            }
        }
    }

    private static void severalMayHaveOneRow() {
        for (boolean curve : SIDES) {
            LoopMixer x = new LoopMixer();
            done(x.row(curve, 0, 2));
            for (int k = 1; k < 6; k++) {
                due("share", x.share(curve, k - 1, k), 1);
            }
            done(x.set(curve, 5, 0, curve ? d(7.0) : f(7.0f)));
            done(x.set(curve, 3, 1, curve ? d(4.0) : f(4.0f)));
            done(x.wrap(curve, 1, 0, 1));
            for (int k = 0; k < 6; k++) {
                dueItem("row " + k, x, curve, k, 0, curve ? d(3.0) : f(3.0f));
            }
            due("drop one", x.drop(curve, 0), 1);
            due("another one anew", x.row(curve, 5, 2), 1);
            for (int k = 1; k < 5; k++) {
                dueItem("row " + k + " stays", x, curve, k, 0, curve ? d(3.0) : f(3.0f));
            }
            due("the dropped one", x.get(curve, 0, 0), MISSING);
            dueItem("the new one", x, curve, 5, 0, 0);
        }
    }

    private static void failuresAreToldAs10LessThem() {
        LoopMixer x = withTrack(0.0f);
        due("1 MISSING", x.get(TRACK, 1, 0), -11);
        due("2 OUTSIDE", x.get(TRACK, 0, 1), -12);
        done(x.effect(0, GAIN, d(1.0)));
        done(x.rack(0, GAIN));
        done(x.rack(1, CRUSH));
        done(x.hang(0, 0, 0));
        due("3 CAST", x.take(0, 0, CRUSH, 1), -13);
        due("4 STORE", x.hang(1, 0, 0), -14);
        due("5", x.wrap(TRACK, 0, 0, 0), -15);
        due("BAD", LoopMixer.BAD, -1);
    }

    // ---- Terms: EFFECTS and RACKS

    private static void effectsAre0To5() {
        LoopMixer x = new LoopMixer();
        done(x.rack(0, GAIN));
        for (int k = 0; k < 6; k++) {
            due("effect " + k, x.effect(k, GAIN, d(k + 1)), 1);
        }
        for (int k = 0; k < 6; k++) {
            dueTold("make " + k, x, x.make(k, f(1.0f)), f(k + 1));
        }
        for (int k : new int[] {-1, 6, Integer.MIN_VALUE, Integer.MAX_VALUE}) {
            due("effect " + k, x.effect(k, GAIN, d(1.0)), BAD);
            due("make " + k, x.make(k, f(1.0f)), BAD);
            due("hang " + k, x.hang(0, 0, k), BAD);
            due("take " + k, x.take(0, 0, GAIN, k), BAD);
        }
    }

    private static void effectsAreNotThereAtFirst() {
        LoopMixer x = new LoopMixer();
        done(x.rack(0, FOLD));
        for (int k = 0; k < 6; k++) {
            due("make " + k, x.make(k, f(1.0f)), MISSING);
            due("hang none", x.hang(0, 0, k), 1);
            due("take none", x.take(0, 0, FOLD, k), 0);
        }
    }

    private static void kindsAre0To2() {
        LoopMixer x = new LoopMixer();
        done(x.effect(0, GAIN, d(1.0)));
        done(x.rack(0, GAIN));
        done(x.hang(0, 0, 0));
        for (int kind : new int[] {-1, 3, Integer.MIN_VALUE, Integer.MAX_VALUE}) {
            due("effect, kind " + kind, x.effect(0, kind, d(1.0)), BAD);
            due("rack, kind " + kind, x.rack(0, kind), BAD);
            due("take, kind " + kind, x.take(0, 0, kind, 0), BAD);
        }
        for (int kind = GAIN; kind <= CRUSH; kind++) {
            due("effect, kind " + kind, x.effect(kind, kind, d(1.0)), 1);
            due("rack, kind " + kind, x.rack(kind, kind), 1);
            due("hang, kind " + kind, x.hang(kind, 0, kind), 1);
            due("take, kind " + kind, x.take(kind, 0, kind, kind), 1);
        }
    }

    private static void amountIsUpToAMillion() {
        for (int kind = GAIN; kind <= CRUSH; kind++) {
            LoopMixer x = new LoopMixer();
            due("1000000", x.effect(0, kind, d(1000000.0)), 1);
            due("-1000000", x.effect(1, kind, d(-1000000.0)), 1);
            due("just above", x.effect(2, kind, d(1000000.0000000001)), BAD);
            due("just below", x.effect(2, kind, d(-1000000.0000000001)), BAD);
            due("just within", x.effect(2, kind, d(999999.9999999999)), 1);
            due("just within", x.effect(2, kind, d(-999999.9999999999)), 1);
            due("greatest", x.effect(2, kind, d(Double.MAX_VALUE)), BAD);
            due("least", x.effect(2, kind, d(-Double.MAX_VALUE)), BAD);
            due("0.0", x.effect(2, kind, d(0.0)), 1);
            due("-0.0", x.effect(2, kind, d(-0.0)), 1);
        }
        dueMade(GAIN, 1000000.0, 1.0f, 1000000.0f);
        dueMade(GAIN, -1000000.0, 1.0f, -1000000.0f);
        dueMade(CRUSH, 1000000.0, 0x1p-19f, 0.000001f);
    }

    private static void gainKeepsTheSignOfZero() {
        dueMade(GAIN, 0.0, 1.0f, 0.0f);
        dueMade(GAIN, 0.0, -1.0f, -0.0f);
        dueMade(GAIN, -0.0, 1.0f, -0.0f);
        dueMade(GAIN, -0.0, -1.0f, 0.0f);
        dueMade(GAIN, 1.0, -0.0f, -0.0f);
        dueMade(GAIN, -1.0, -0.0f, 0.0f);
    }

    private static void gainTimesAsDoubles() {
        dueMade(GAIN, 1.0 + 0x1p-25, 1.0f + 0x1p-23f, 1.0f + 0x1p-23f);
        // As a float, the amount would be 1.0, or 0.0.
        dueMade(GAIN, 1.0 + 0x1p-24, 1.0f + 0x1p-23f, 1.0f + 0x1p-22f);
        dueMade(GAIN, 0x1p-160, 0x1p100f, 0x1p-60f);
        dueMade(GAIN, 1000000.0, MAX, MAX);
        dueMade(GAIN, 1000000.0, -MAX, -MAX);
        dueMade(GAIN, 1e-300, MIN, 0.0f);
    }

    private static void foldAbove1() {
        dueMade(FOLD, 1.0, 1.0f, 1.0f);
        dueMade(FOLD, 1.0, 1.0f + 0x1p-23f, 1.0f - 0x1p-23f);
        dueMade(FOLD, 1.0, 1.0f - 0x1p-24f, 1.0f - 0x1p-24f);
        dueMade(FOLD, 1.0, 1.75f, 0.25f);
        dueMade(FOLD, 1.0, 2.0f - 0x1p-23f, 0x1p-23f);
    }

    private static void foldBelowMinus1() {
        dueMade(FOLD, 1.0, -1.0f, -1.0f);
        dueMade(FOLD, 1.0, -1.0f - 0x1p-23f, -1.0f + 0x1p-23f);
        dueMade(FOLD, 1.0, -1.0f + 0x1p-24f, -1.0f + 0x1p-24f);
        dueMade(FOLD, 1.0, -1.75f, -0.25f);
        dueMade(FOLD, 1.0, -2.0f + 0x1p-23f, -0x1p-23f);
    }

    private static void foldRestsBy2() {
        dueMade(FOLD, 1.0, 2.0f, 0.0f);
        dueMade(FOLD, 1.0, -2.0f, -0.0f);
        dueMade(FOLD, 1.0, 0.0f, 0.0f);
        dueMade(FOLD, 1.0, -0.0f, -0.0f);
        dueMade(FOLD, 1.0, 2.0f + 0x1p-22f, 0x1p-22f);
        dueMade(FOLD, 1.0, 3.0f, 1.0f);
        dueMade(FOLD, 1.0, -3.0f, -1.0f);
        dueMade(FOLD, 1.0, 3.25f, 0.75f);
        dueMade(FOLD, 1.0, 16777215.0f, 1.0f);
        dueMade(FOLD, 1.0, MAX, 0.0f);
        dueMade(FOLD, 1.0, -MAX, -0.0f);
        dueMade(FOLD, 1.0, MIN, MIN);
    }

    private static void foldOfTheProductAsADouble() {
        // The product is odd, but would be even if it were held as a float first.
        dueMade(FOLD, 1.0 + 0x1p-24, 16777216.0f, 1.0f);
        dueMade(FOLD, -1.0 - 0x1p-24, 16777216.0f, -1.0f);
        dueMade(FOLD, 1000000.0, MAX, 0.0f);
    }

    private static void crushCutsTheAmount() {
        dueMade(CRUSH, 2.0, 0.75f, 0.5f);
        dueMade(CRUSH, 2.9999999999, 0.75f, 0.5f);
        dueMade(CRUSH, 3.0, 0.75f, 0.6666667f);
        dueMade(CRUSH, 1.9999999999, 0.75f, 0.0f);
        dueMade(CRUSH, 999999.9999999999, 1.0f - 0x1p-20f, (float) (999998.0 / 999999.0));
    }

    private static void crushBelow1IsBy1() {
        for (double amount : new double[] {1.0, 0.9999999999, 0.0, -0.0, -0.5, -1.0, -2.0, -1000000.0}) {
            dueMade(CRUSH, amount, 2.75f, 2.0f);
            dueMade(CRUSH, amount, -2.75f, -2.0f);
        }
    }

    private static void crushCutsToALong() {
        dueMade(CRUSH, 1.0, 0.99999994f, 0.0f);
        dueMade(CRUSH, 1.0, -0.99999994f, 0.0f);
        dueMade(CRUSH, 1.0, -0.0f, 0.0f);
        dueMade(CRUSH, 4.0, -0.24999999f, 0.0f);
        dueMade(CRUSH, 1.0, 0x1.fffffep62f, 0x1.fffffep62f);
        dueMade(CRUSH, 1.0, 0x1p63f, 0x1p63f);
        dueMade(CRUSH, 1.0, 0x1p64f, 0x1p63f);
        dueMade(CRUSH, 1.0, -0x1p63f, -0x1p63f);
        dueMade(CRUSH, 1.0, -0x1p64f, -0x1p63f);
        dueMade(CRUSH, 2.0, MAX, 0x1p62f);
        dueMade(CRUSH, 2.0, -MAX, -0x1p62f);
        dueMade(CRUSH, 1.0, 3e9f, 3e9f);
    }

    private static void racksAre0To2() {
        LoopMixer x = withTrack(1.0f);
        for (int r = 0; r < 3; r++) {
            done(x.effect(r, GAIN, d(r + 1)));
            due("rack " + r, x.rack(r, GAIN), 1);
            due("hang " + r, x.hang(r, 0, r), 1);
        }
        for (int r = 0; r < 3; r++) {
            due("take " + r, x.take(r, 0, GAIN, 5), 1);
            dueTold("its own", x, x.make(5, f(1.0f)), f(r + 1));
        }
        for (int r : new int[] {-1, 3, Integer.MIN_VALUE, Integer.MAX_VALUE}) {
            due("rack " + r, x.rack(r, GAIN), BAD);
            due("hang " + r, x.hang(r, 0, 0), BAD);
            due("take " + r, x.take(r, 0, GAIN, 0), BAD);
        }
    }

    private static void racksHave3Places() {
        LoopMixer x = new LoopMixer();
        done(x.rack(0, GAIN));
        for (int i = 0; i < 3; i++) {
            done(x.effect(0, GAIN, d(i + 1)));
            due("hang " + i, x.hang(0, i, 0), 1);
        }
        for (int i = 0; i < 3; i++) {
            due("take " + i, x.take(0, i, GAIN, 0), 1);
            dueTold("place " + i, x, x.make(0, f(1.0f)), f(i + 1));
        }
        for (int i : new int[] {-1, 3, Integer.MIN_VALUE, Integer.MAX_VALUE}) {
            due("hang " + i, x.hang(0, i, 0), OUTSIDE);
            due("take " + i, x.take(0, i, GAIN, 0), OUTSIDE);
        }
    }

    private static void racksHaveEffectsOfTheirKind() {
        int[][] answers = {{1, 1, STORE}, {STORE, 1, STORE}, {STORE, STORE, 1}};
        for (int kind = GAIN; kind <= CRUSH; kind++) {
            for (int of = GAIN; of <= CRUSH; of++) {
                LoopMixer x = new LoopMixer();
                done(x.rack(0, kind));
                done(x.effect(0, of, d(1.0)));
                due("kind " + of + " in a rack for " + kind, x.hang(0, 0, 0), answers[kind][of]);
                due("is there", x.take(0, 0, of, 1), answers[kind][of] == 1 ? 1 : 0);
            }
        }
    }

    private static void racksHaveNone() {
        for (int kind = GAIN; kind <= CRUSH; kind++) {
            LoopMixer x = new LoopMixer();
            done(x.rack(0, kind));
            done(x.effect(0, kind, d(1.0)));
            done(x.hang(0, 0, 0));
            due("none instead of one", x.hang(0, 0, 5), 1);
            due("none is there", x.take(0, 0, kind, 0), 0);
            due("none instead of none", x.hang(0, 1, 5), 1);
        }
    }

    // ---- Terms: HEADS

    private static void headsAre0To3() {
        LoopMixer x = withTrack(1.0f, 2.0f, 4.0f, 8.0f, 16.0f);
        for (int h = 0; h < 4; h++) {
            due("not set yet", x.play(h, 0), BAD);
            due("head " + h, x.head(h, 0, -1, -1, d(h + 1)), 1);
        }
        for (int h = 0; h < 4; h++) {
            due("play " + h, x.play(h, 1), 1);
        }
        for (int h = 0; h < 4; h++) {
            dueHead("its own", x, h, h + 1, 1);
        }
        for (int h : new int[] {-1, 4, Integer.MIN_VALUE, Integer.MAX_VALUE}) {
            due("head " + h, x.head(h, 0, -1, -1, d(1.0)), BAD);
            due("play " + h, x.play(h, 1), BAD);
            due("at " + h, x.at(h, 0), BAD);
        }
    }

    private static void noCurveAndNoRack() {
        LoopMixer x = withTrack(3.0f);
        setCurve(x, 0, 2.0);
        done(x.effect(0, GAIN, d(5.0)));
        hangAll(x, 0, GAIN, 0, 0, 0);
        due("none of both", x.head(0, 0, -1, -1, d(0.0)), 1);
        due("a curve", x.head(1, 0, 0, -1, d(0.0)), 1);
        due("a rack", x.head(2, 0, -1, 0, d(0.0)), 1);
        float[] sums = {3.0f, 9.0f, 384.0f};
        for (int h = 0; h < 3; h++) {
            due("play", x.play(h, 1), 1);
            dueTold("head " + h, x, x.mix(0, 0), f(sums[h]));
        }
        due("no track", x.head(0, -1, -1, -1, d(0.0)), BAD);
    }

    private static void partsAreByNumber() {
        LoopMixer x = new LoopMixer();
        due("a head of what is not there", x.head(0, 5, 5, 2, d(0.0)), 1);
        dueEnd("no track", x, 0, 1, 0, MISSING);
        setTrack(x, 5, 3.0f);
        dueEnd("no curve", x, 0, 1, 0, MISSING);
        setCurve(x, 5, 2.0);
        dueEnd("no rack", x, 0, 1, 0, MISSING);
        done(x.effect(0, GAIN, d(0.5)));
        hangAll(x, 2, GAIN, 0, 0, 0);
        dueEnd("all there", x, 0, 1, 1, 0);
        dueMix("all there", x, 0.75f);
        setTrack(x, 4, 8.0f);
        due("share", x.share(TRACK, 4, 5), 1);
        dueEnd("another row", x, 0, 1, 1, 0);
        dueMix("another row", x, 0.75f, 2.0f);
        due("drop", x.drop(TRACK, 5), 1);
        dueEnd("dropped", x, 0, 1, 0, MISSING);
    }

    private static void rateIsUpTo64() {
        LoopMixer x = withTrack(1.0f, 2.0f, 3.0f);
        due("64", x.head(0, 0, -1, -1, d(64.0)), 1);
        due("-64", x.head(1, 0, -1, -1, d(-64.0)), 1);
        due("just above", x.head(2, 0, -1, -1, d(64.00000000000001)), BAD);
        due("just below", x.head(2, 0, -1, -1, d(-64.00000000000001)), BAD);
        due("greatest", x.head(2, 0, -1, -1, d(Double.MAX_VALUE)), BAD);
        due("least", x.head(2, 0, -1, -1, d(-Double.MAX_VALUE)), BAD);
        due("not set by these", x.at(2, 0), BAD);
        due("just within", x.head(2, 0, -1, -1, d(63.99999999999999)), 1);
        due("just within", x.head(3, 0, -1, -1, d(-63.99999999999999)), 1);
        for (int h = 0; h < 2; h++) {
            due("play", x.play(h, 1), 1);
        }
        dueHead("64 by 3", x, 0, 1.0, 1);
        dueHead("-64 by 3", x, 1, 2.0, 1);
    }

    private static void placeAndStepsAre0AtFirst() {
        LoopMixer x = withTrack(1.0f);
        done(x.clock(7, 0));
        for (int h = 0; h < 4; h++) {
            done(x.head(h, 0, -1, -1, d(-0.0)));
            dueTold("place", x, x.at(h, 0), 0L);
            done(x.clock(1, 0));
            dueTold("steps", x, x.at(h, 1), 0L);
            done(x.clock(1, 0));
        }
    }

    private static void theMixHas8Floats() {
        LoopMixer x = new LoopMixer();
        done(x.clock(7, 0));
        dueMix("at first", x);
        setTrack(x, 0, 1.0f, 2.0f, 3.0f, 4.0f, 5.0f, 6.0f, 7.0f, 8.0f);
        done(x.head(0, 0, -1, -1, d(1.0)));
        due("play", x.play(0, 8), 8);
        dueMix("each its own", x, 1.0f, 2.0f, 3.0f, 4.0f, 5.0f, 6.0f, 7.0f, 8.0f);
        for (int i : new int[] {-1, 8, Integer.MIN_VALUE, Integer.MAX_VALUE}) {
            due("mix " + i, x.mix(i, 0), BAD);
        }
    }

    // ---- Terms: a STEP

    private static void placeIsCutToAnInt() {
        double justBelow1 = 1.0 - 0x1p-53;
        LoopMixer x = withHead(justBelow1, 1.0f, 2.0f, 4.0f);
        due("play", x.play(0, 3), 3);
        dueMix("0.0, 0.999.., 1.999..", x, 1.0f, 1.0f, 2.0f);
        x = withHead(-0x1p-50, 1.0f, 2.0f, 4.0f);
        due("play", x.play(0, 2), 2);
        dueMix("0.0, 2.999..", x, 1.0f, 4.0f);
        x = withHead(-3.0, 1.0f, 2.0f, 4.0f);
        due("play", x.play(0, 2), 2);
        dueMix("0.0, -0.0", x, 1.0f, 1.0f);
    }

    private static void trackMissing() {
        LoopMixer x = withHead(1.0, 1.0f, 2.0f);
        due("play", x.play(0, 1), 1);
        due("drop", x.drop(TRACK, 0), 1);
        dueEnd("missing", x, 0, 2, 0, MISSING);
        dueMix("nothing more is done", x, 1.0f);
        dueHead("nothing more is done", x, 0, 1.0, 1);
        due("share none", x.share(TRACK, 3, 0), 0);
        dueEnd("still missing", x, 0, 1, 0, MISSING);
    }

    private static void trackOutside() {
        LoopMixer x = withHead(1.0, 1.0f, 2.0f, 4.0f);
        due("play", x.play(0, 2), 2);
        done(x.row(TRACK, 0, 2));
        dueEnd("place 2.0 of 2", x, 0, 2, 0, OUTSIDE);
        dueMix("nothing more is done", x, 1.0f, 2.0f);
        dueHead("nothing more is done", x, 0, 2.0, 2);
        done(x.row(TRACK, 0, 3));
        dueEnd("place 2.0 of 3", x, 0, 1, 1, 0);
        x = withHead(1.75, 1.0f, 2.0f);
        due("play", x.play(0, 1), 1);
        done(x.row(TRACK, 0, 1));
        dueEnd("place 1.75 of 1", x, 0, 1, 0, OUTSIDE);
        done(x.row(TRACK, 0, 2));
        dueEnd("place 1.75 of 2", x, 0, 1, 1, 0);
    }

    private static void trackOfNoItems() {
        LoopMixer x = new LoopMixer();
        done(x.row(TRACK, 0, 0));
        done(x.head(0, 0, -1, -1, d(1.0)));
        dueEnd("no items", x, 0, 64, 0, OUTSIDE);
        dueMix("nothing is done", x);
        dueHead("nothing is done", x, 0, 0.0, 0);
    }

    private static void curveMissing() {
        LoopMixer x = withTrack(1.0f, 2.0f);
        setCurve(x, 1, 3.0);
        done(x.head(0, 0, 1, -1, d(1.0)));
        due("play", x.play(0, 1), 1);
        due("drop", x.drop(CURVE, 1), 1);
        dueEnd("missing", x, 0, 2, 0, MISSING);
        dueMix("nothing more is done", x, 3.0f);
        dueHead("nothing more is done", x, 0, 1.0, 1);
    }

    private static void curveOfNoItems() {
        LoopMixer x = withTrack(1.0f, 2.0f);
        setCurve(x, 1, 3.0);
        done(x.head(0, 0, 1, -1, d(1.0)));
        due("play", x.play(0, 1), 1);
        due("row", x.row(CURVE, 1, 0), 1);
        dueEnd("no items", x, 0, 2, 0, OUTSIDE);
        dueMix("nothing more is done", x, 3.0f);
        dueHead("nothing more is done", x, 0, 1.0, 1);
    }

    private static void curveWrapsByHowManyItHas() {
        LoopMixer x = withTrack(1.0f);
        setCurve(x, 0, 1.0, 2.0, 3.0);
        done(x.head(0, 0, 0, -1, d(0.0)));
        due("play", x.play(0, 7), 7);
        dueMix("by 3", x, 1.0f, 2.0f, 3.0f, 1.0f, 2.0f, 3.0f, 1.0f);
        setCurve(x, 0, 10.0, 20.0, 30.0, 40.0, 50.0);
        due("play", x.play(0, 1), 1);
        dueTold("step 7 by 5", x, x.mix(7, 0), f(30.0f));
        setCurve(x, 0, 7.0);
        due("hush", x.hush(), 1);
        due("play", x.play(0, 2), 2);
        dueMix("by 1", x, 7.0f, 7.0f);
    }

    private static void curveTimesAsDoubles() {
        LoopMixer x = withTrack(1.0f + 0x1p-23f, 0x1p100f, 0x1p-100f);
        // As floats, the curve's items would be 1.0, 0.0, and endless.
        setCurve(x, 0, 1.0 + 0x1p-24, 0x1p-160, 0x1p160);
        done(x.head(0, 0, 0, -1, d(1.0)));
        due("play", x.play(0, 3), 3);
        dueMix("products", x, 1.0f + 0x1p-22f, 0x1p-60f, 0x1p60f);
    }

    private static void rackMissing() {
        LoopMixer x = withTrack(1.0f, 2.0f);
        done(x.head(0, 0, -1, 2, d(1.0)));
        dueEnd("no rack", x, 0, 2, 0, MISSING);
        dueMix("nothing is done", x);
        dueHead("nothing is done", x, 0, 0.0, 0);
    }

    private static void eachBarePlaceIsMissing() {
        for (int bare = 0; bare < 3; bare++) {
            LoopMixer x = withTrack(1.0f, 2.0f);
            done(x.effect(0, GAIN, d(3.0)));
            hangAll(x, 1, GAIN, 0, 0, 0);
            done(x.head(0, 0, -1, 1, d(1.0)));
            dueEnd("full", x, 0, 1, 1, 0);
            due("none in place " + bare, x.hang(1, bare, 5), 1);
            dueEnd("bare place " + bare, x, 0, 2, 0, MISSING);
            dueMix("nothing more is done", x, 27.0f);
            dueHead("nothing more is done", x, 0, 1.0, 1);
            due("full again", x.hang(1, bare, 0), 1);
            dueEnd("full again", x, 0, 1, 1, 0);
        }
    }

    private static void placesFrom0On() {
        LoopMixer x = withTrack(0.75f);
        done(x.effect(0, GAIN, d(2.0)));
        done(x.effect(1, FOLD, d(1.0)));
        done(x.effect(2, GAIN, d(8.0)));
        hangAll(x, 0, GAIN, 0, 1, 2);
        hangAll(x, 1, GAIN, 2, 0, 1);
        done(x.head(0, 0, -1, 0, d(0.0)));
        done(x.head(1, 0, -1, 1, d(0.0)));
        due("play", x.play(0, 1), 1);
        dueMix("1.5, folded to 0.5, 4.0", x, 4.0f);
        due("play", x.play(1, 2), 2);
        dueMix("6.0, 12.0, folded to 0.0", x, 4.0f, 0.0f);
    }

    private static void heldAfterEachEffect() {
        LoopMixer x = withTrack(MAX, -MAX, 1.0f + 0x1p-23f);
        done(x.effect(0, GAIN, d(4.0)));
        done(x.effect(1, GAIN, d(0.25)));
        done(x.effect(2, GAIN, d(1.0)));
        hangAll(x, 0, GAIN, 0, 1, 2);
        done(x.head(0, 0, -1, 0, d(1.0)));
        due("play", x.play(0, 2), 2);
        dueMix("beyond the greatest, by 4", x, MAX / 4, -MAX / 4);
        // Unheld, two halves of a float's lowest bit would be a whole one.
        done(x.effect(3, GAIN, d(1.0 + 0x1p-25)));
        hangAll(x, 0, GAIN, 3, 3, 2);
        due("play", x.play(0, 1), 1);
        dueTold("the nearest each time", x, x.mix(2, 0), f(1.0f + 0x1p-23f));
    }

    private static void theFirstFailureIsTold() {
        LoopMixer x = new LoopMixer();
        done(x.head(0, 0, 0, 0, d(1.0)));
        done(x.row(CURVE, 0, 0));
        dueEnd("no track, a curve of no items", x, 0, 1, 0, MISSING);
        done(x.row(TRACK, 0, 0));
        done(x.drop(CURVE, 0));
        dueEnd("a track of no items, no curve", x, 0, 1, 0, OUTSIDE);
        done(x.row(TRACK, 0, 1));
        done(x.row(CURVE, 0, 0));
        dueEnd("a curve of no items, no rack", x, 0, 1, 0, OUTSIDE);
        done(x.row(CURVE, 0, 1));
        dueEnd("no rack", x, 0, 1, 0, MISSING);
    }

    private static void stepsModulo8() {
        LoopMixer x = withHead(1.0, 1.0f, 2.0f, 3.0f, 4.0f, 5.0f, 6.0f, 7.0f, 8.0f, 100.0f, 200.0f);
        due("play", x.play(0, 7), 7);
        dueMix("up to 6", x, 1.0f, 2.0f, 3.0f, 4.0f, 5.0f, 6.0f, 7.0f);
        due("play", x.play(0, 1), 1);
        dueMix("7", x, 1.0f, 2.0f, 3.0f, 4.0f, 5.0f, 6.0f, 7.0f, 8.0f);
        due("play", x.play(0, 2), 2);
        dueMix("8 and 9", x, 101.0f, 202.0f, 3.0f, 4.0f, 5.0f, 6.0f, 7.0f, 8.0f);
    }

    private static void headsAddToTheSameMix() {
        LoopMixer x = withHead(0.0, -0.0f);
        due("play", x.play(0, 1), 1);
        dueMix("0.0 and -0.0", x, 0.0f);
        setTrack(x, 1, 0.1f);
        done(x.head(1, 1, -1, -1, d(0.0)));
        due("play", x.play(1, 1), 1);
        done(x.head(1, 1, -1, -1, d(0.0)));
        due("play", x.play(1, 1), 1);
        dueMix("0.1 and 0.1", x, 0.2f);
        setTrack(x, 1, -0.2f);
        done(x.head(1, 1, -1, -1, d(0.0)));
        due("play", x.play(1, 1), 1);
        dueMix("back to 0.0", x, 0.0f);
    }

    private static void dueNext(String what, int items, double rate, double... places) {
        LoopMixer x = new LoopMixer();
        done(x.row(TRACK, 0, items));
        done(x.head(0, 0, -1, -1, d(rate)));
        for (int step = 0; step < places.length; step++) {
            due("play", x.play(0, 1), 1);
            dueHead(what, x, 0, places[step], step + 1);
        }
    }

    private static void placeWrapsAtTheEnd() {
        dueNext("just the end", 2, 2.0, 0.0, 0.0);
        dueNext("just before the end", 2, 2.0 - 0x1p-52, 2.0 - 0x1p-52, 2.0 - 0x1p-51);
        dueNext("just beyond the end", 2, 2.0 + 0x1p-51, 0x1p-51, 0x1p-50);
        dueNext("far beyond", 3, 64.0, 1.0, 2.0, 0.0);
        dueNext("of one item", 1, 64.0, 0.0, 0.0);
        dueNext("of one item", 1, 0.75, 0.75, 0.5, 0.25, 0.0);
        dueNext("of 16 items", 16, 15.0, 15.0, 14.0);
        dueNext("of 16 items", 16, 16.0, 0.0, 0.0);
        dueNext("sums as doubles", 1, 0.1, 0.1, 0.2, 0.30000000000000004);
    }

    private static void placeBelow0IsThatManyMore() {
        dueNext("one back", 3, -1.0, 2.0, 1.0, 0.0, 2.0);
        dueNext("far back", 3, -64.0, 2.0, 1.0);
        dueNext("not quite a round", 3, -2.75, 0.25, 0.5);
        dueNext("of 16 items", 16, -0.5, 15.5, 15.0);
        dueNext("just below", 1, -0x1p-53, 1.0 - 0x1p-53, 1.0 - 0x1p-52);
    }

    private static void placeMinus0IsNotBelow0() {
        dueNext("a round back", 3, -3.0, -0.0, -0.0);
        dueNext("rounds back", 1, -64.0, -0.0, -0.0);
        dueNext("0.0 and -0.0", 3, -0.0, 0.0, 0.0);
        dueNext("0.0 and 0.0", 3, 0.0, 0.0, 0.0);
    }

    private static void placeNotBelowThatManyIs0() {
        dueNext("hardly below 0.0", 3, -1e-300, 0.0, 0.0);
        dueNext("the smallest", 1, -Double.MIN_VALUE, 0.0, 0.0);
        dueNext("of two, the even one", 1, -0x1p-54, 0.0, 0.0);
        dueNext("a bit more than that", 1, -0x1.0000000000001p-54, 1.0 - 0x1p-53);
        dueNext("of 16 items", 16, -0x1p-50, 0.0, 0.0);
        dueNext("of 16 items", 16, -0x1.8p-50, 16.0 - 0x1p-49);
    }

    private static void placeByTheTracksLengthNow() {
        LoopMixer x = new LoopMixer();
        done(x.row(TRACK, 0, 4));
        done(x.head(0, 0, -1, -1, d(1.0)));
        due("play", x.play(0, 3), 3);
        dueHead("of 4", x, 0, 3.0, 3);
        done(x.row(TRACK, 0, 16));
        due("play", x.play(0, 1), 1);
        dueHead("of 16", x, 0, 4.0, 4);
        done(x.row(TRACK, 0, 5));
        due("play", x.play(0, 1), 1);
        dueHead("of 5", x, 0, 0.0, 5);
    }

    // ---- Promises

    private static void aNewObjectHasNothing() {
        LoopMixer x = new LoopMixer();
        due("told", x.told(), 0);
        due("failed", x.failed(), 0);
        for (int r = 0; r < 3; r++) {
            due("no rack", x.hang(r, 0, 0), MISSING);
            due("no rack", x.take(r, 0, GAIN, 0), MISSING);
        }
        for (int h = 0; h < 4; h++) {
            due("no head", x.at(h, 0), BAD);
            due("no head", x.play(h, 0), BAD);
        }
        dueMix("the mix", x);
        done(x.clock(3, 0));
        LoopMixer y = new LoopMixer();
        due("told, whatever another object was", y.told(), 0);
        dueTold("the clock, whatever another object's", y, y.clock(0, 0), 0);
    }

    private static void rowOf0To16() {
        for (boolean curve : SIDES) {
            LoopMixer x = new LoopMixer();
            for (int n : new int[] {-1, 17, Integer.MIN_VALUE, Integer.MAX_VALUE}) {
                due("row of " + n, x.row(curve, 0, n), BAD);
                due("no row of " + n, x.drop(curve, 0), 0);
            }
            for (int n = 0; n <= 16; n++) {
                due("row of " + n, x.row(curve, 0, n), 1);
                due("its end", x.get(curve, 0, n), OUTSIDE);
                due("its last", x.get(curve, 0, n - 1), n == 0 ? OUTSIDE : 1);
            }
        }
    }

    private static void shareNone() {
        for (boolean curve : SIDES) {
            LoopMixer x = new LoopMixer();
            due("none to none", x.share(curve, 0, 1), 0);
            done(x.row(curve, 1, 2));
            due("none to one", x.share(curve, 0, 1), 0);
            due("it has none", x.get(curve, 1, 0), MISSING);
            due("none to itself", x.share(curve, 0, 0), 0);
        }
    }

    private static void shareWithItself() {
        for (boolean curve : SIDES) {
            LoopMixer x = new LoopMixer();
            done(x.row(curve, 5, 1));
            done(x.set(curve, 5, 0, 9));
            due("share", x.share(curve, 5, 5), 1);
            dueItem("its row stays", x, curve, 5, 0, 9);
        }
    }

    private static void dropTellsWhetherItHadOne() {
        for (boolean curve : SIDES) {
            LoopMixer x = new LoopMixer();
            for (int k = 0; k < 6; k += 5) {
                due("none", x.drop(curve, k), 0);
                done(x.row(curve, k, 1));
                due("one", x.drop(curve, k), 1);
                due("none any more", x.get(curve, k, 0), MISSING);
                due("none any more", x.drop(curve, k), 0);
            }
        }
    }

    private static void setFailures() {
        for (boolean curve : SIDES) {
            LoopMixer x = new LoopMixer();
            done(x.row(curve, 0, 3));
            for (int i : new int[] {-1, 3, 16, Integer.MIN_VALUE, Integer.MAX_VALUE}) {
                due("none there, " + i, x.set(curve, 1, i, 0), MISSING);
                due("item " + i, x.set(curve, 0, i, 0), OUTSIDE);
            }
            for (int i = 0; i < 3; i++) {
                due("item " + i, x.set(curve, 0, i, i + 1), 1);
                due("none there, " + i, x.set(curve, 1, i, 0), MISSING);
            }
        }
    }

    private static void getFailures() {
        for (boolean curve : SIDES) {
            LoopMixer x = new LoopMixer();
            done(x.row(curve, 0, 3));
            for (int i : new int[] {-1, 3, 16, Integer.MIN_VALUE, Integer.MAX_VALUE}) {
                due("none there, " + i, x.get(curve, 1, i), MISSING);
                due("item " + i, x.get(curve, 0, i), OUTSIDE);
            }
            for (int i = 0; i < 3; i++) {
                due("item " + i, x.get(curve, 0, i), 1);
                due("none there, " + i, x.get(curve, 1, i), MISSING);
            }
        }
    }

    private static void setBadBitsBeforeFailures() {
        LoopMixer x = withTrack(0.0f);
        due("none there", x.set(TRACK, 1, 0, 0x7f800000L), BAD);
        due("no such item", x.set(TRACK, 0, 1, 0x7fc00000L), BAD);
        done(x.row(CURVE, 0, 1));
        due("none there", x.set(CURVE, 1, 0, 0x7ff0000000000000L), BAD);
        due("no such item", x.set(CURVE, 0, 1, 0x7ff8000000000000L), BAD);
    }

    private static void wrapFailures() {
        for (boolean curve : SIDES) {
            LoopMixer x = new LoopMixer();
            done(x.row(curve, 0, 2));
            for (int i : new int[] {-1, 2, Integer.MIN_VALUE, Integer.MAX_VALUE}) {
                due("none there " + i, x.wrap(curve, 1, i, 0), MISSING);
                due("none there " + i, x.wrap(curve, 1, 0, i), MISSING);
                // Item 0 is 0.0: what is outside comes before the rest by it.
                due("i " + i, x.wrap(curve, 0, i, 0), OUTSIDE);
                due("j " + i, x.wrap(curve, 0, 0, i), OUTSIDE);
            }
        }
    }

    private static void wrapBy0() {
        for (boolean curve : SIDES) {
            LoopMixer x = new LoopMixer();
            done(x.row(curve, 0, 4));
            done(x.set(curve, 0, 1, curve ? Long.MIN_VALUE : Integer.MIN_VALUE));
            done(x.set(curve, 0, 2, 1));
            due("by 0.0", x.wrap(curve, 0, 2, 0), BY_ZERO);
            due("by -0.0", x.wrap(curve, 0, 2, 1), BY_ZERO);
            due("0.0 by itself", x.wrap(curve, 0, 0, 0), BY_ZERO);
            due("by the smallest", x.wrap(curve, 0, 3, 2), 1);
            dueItem("as it was", x, curve, 0, 2, 1);
        }
    }

    private static void dueFloatRest(float number, float by, float rest) {
        LoopMixer x = withTrack(number, by);
        due(number + " by " + by, x.wrap(TRACK, 0, 0, 1), 1);
        dueItem(number + " by " + by, x, TRACK, 0, 0, f(rest));
        dueItem("what it is by", x, TRACK, 0, 1, f(by));
    }

    private static void dueRest(double number, double by, double rest) {
        LoopMixer x = new LoopMixer();
        setCurve(x, 0, number, by);
        due(number + " by " + by, x.wrap(CURVE, 0, 0, 1), 1);
        dueItem(number + " by " + by, x, CURVE, 0, 0, d(rest));
        dueItem("what it is by", x, CURVE, 0, 1, d(by));
    }

    private static void wrapEdges() {
        double[][] rests = {{5.0, 5.0, 0.0}, {-5.0, 5.0, -0.0}, {5.0, -5.0, 0.0}, {-5.0, -5.0, -0.0},
            {4.0, 5.0, 4.0}, {-4.0, 5.0, -4.0}, {6.0, 5.0, 1.0}, {6.0, -5.0, 1.0}, {-6.0, 5.0, -1.0},
            {10.0, 5.0, 0.0}, {0.0, 5.0, 0.0}, {-0.0, 5.0, -0.0}, {7.5, 2.0, 1.5}};
        for (double[] row : rests) {
            dueFloatRest((float) row[0], (float) row[1], (float) row[2]);
            dueRest(row[0], row[1], row[2]);
        }
    }

    private static void wrapOfItsWidth() {
        // The float 0.3 is more, the double 0.3 less than three of 0.1.
        dueFloatRest(0.3f, 0.1f, 0.3f % 0.1f);
        dueRest(0.3, 0.1, 0.09999999999999998);
        dueFloatRest(MAX, MIN, 0.0f);
        dueFloatRest(MAX, 3.0f, 0.0f);
        dueFloatRest(MAX, 5.0f, MAX % 5.0f);
        dueFloatRest(3 * MIN, 2 * MIN, MIN);
        dueFloatRest(0x1p-126f, 0x1p-126f - MIN, MIN);
        dueFloatRest(0x1.fffffcp127f, -MAX, 0x1.fffffcp127f);
        dueRest(Double.MAX_VALUE, Double.MIN_VALUE, 0.0);
        dueRest(Double.MAX_VALUE, 5.0, Double.MAX_VALUE % 5.0);
        dueRest(-Double.MAX_VALUE, 3 * Double.MIN_VALUE, -Double.MAX_VALUE % (3 * Double.MIN_VALUE));
        dueRest(Double.MIN_NORMAL, Double.MIN_NORMAL - Double.MIN_VALUE, Double.MIN_VALUE);
        dueRest(Double.MIN_VALUE, Double.MAX_VALUE, Double.MIN_VALUE);
    }

    private static void wrapByItself() {
        for (boolean curve : SIDES) {
            LoopMixer x = new LoopMixer();
            done(x.row(curve, 0, 2));
            done(x.set(curve, 0, 0, curve ? d(7.0) : f(7.0f)));
            done(x.set(curve, 0, 1, curve ? d(-7.0) : f(-7.0f)));
            due("wrap", x.wrap(curve, 0, 0, 0), 1);
            dueItem("7.0", x, curve, 0, 0, 0);
            due("wrap", x.wrap(curve, 0, 1, 1), 1);
            dueItem("-7.0", x, curve, 0, 1, curve ? Long.MIN_VALUE : Integer.MIN_VALUE);
            due("by 0 now", x.wrap(curve, 0, 1, 1), BY_ZERO);
        }
    }

    private static void effectInsteadOfAnother() {
        LoopMixer x = new LoopMixer();
        done(x.effect(0, GAIN, d(4.0)));
        dueTold("gain", x, x.make(0, f(1.25f)), f(5.0f));
        done(x.effect(0, FOLD, d(4.0)));
        dueTold("fold", x, x.make(0, f(1.25f)), f(1.0f));
        done(x.effect(0, CRUSH, d(2.0)));
        dueTold("crush", x, x.make(0, f(1.25f)), f(1.0f));
    }

    private static void makeOfNone() {
        LoopMixer x = new LoopMixer();
        for (int k = 0; k < 6; k++) {
            due("none", x.make(k, f(1.0f)), MISSING);
            due("BAD before none", x.make(k, 0x7f800000L), BAD);
        }
        done(x.effect(3, GAIN, d(1.0)));
        done(x.rack(0, GAIN));
        due("take none", x.take(0, 0, GAIN, 3), 0);
        due("none any more", x.make(3, f(1.0f)), MISSING);
    }

    private static void rackHasBarePlaces() {
        for (int kind = GAIN; kind <= CRUSH; kind++) {
            LoopMixer x = new LoopMixer();
            done(x.effect(0, kind, d(1.0)));
            for (int round = 0; round < 2; round++) {
                due("rack", x.rack(1, kind), 1);
                for (int i = 0; i < 3; i++) {
                    due("bare", x.take(1, i, kind, 5), 0);
                    due("hang", x.hang(1, i, 0), 1);
                }
            }
            due("for another kind", x.rack(1, (kind + 2) % 3), 1);
            due("of that kind now", x.hang(1, 0, 0), kind == FOLD ? 1 : STORE);
        }
    }

    private static void hangGetsTheEffectItself() {
        LoopMixer x = new LoopMixer();
        done(x.effect(0, GAIN, d(2.0)));
        hangAll(x, 0, GAIN, 0, 0, 0);
        done(x.effect(0, CRUSH, d(1.0)));
        for (int i = 0; i < 3; i++) {
            due("still the gain", x.take(0, i, GAIN, 1), 1);
            dueTold("still the gain", x, x.make(1, f(1.5f)), f(3.0f));
        }
        due("the place keeps it", x.take(0, 0, GAIN, 2), 1);
    }

    private static void hangFailures() {
        LoopMixer x = new LoopMixer();
        done(x.effect(0, GAIN, d(1.0)));
        done(x.rack(1, CRUSH));
        for (int i = -1; i < 4; i++) {
            due("no rack, place " + i, x.hang(0, i, 0), MISSING);
            due("no rack, none, place " + i, x.hang(0, i, 5), MISSING);
            due("of another kind, place " + i, x.hang(1, i, 0), i < 0 || i > 2 ? OUTSIDE : STORE);
            due("none, place " + i, x.hang(1, i, 5), i < 0 || i > 2 ? OUTSIDE : 1);
            due("BAD effect, no rack, place " + i, x.hang(0, i, 6), BAD);
            due("BAD effect, place " + i, x.hang(1, i, -1), BAD);
        }
    }

    private static void takeAsOneOfAKind() {
        int[][] answers = {{1, CAST, CAST}, {1, 1, CAST}, {CAST, CAST, 1}};
        for (int of = GAIN; of <= CRUSH; of++) {
            for (int kind = GAIN; kind <= CRUSH; kind++) {
                LoopMixer x = new LoopMixer();
                done(x.effect(0, of, d(2.0)));
                done(x.rack(0, of));
                done(x.hang(0, 0, 0));
                due("kind " + of + " as " + kind, x.take(0, 0, kind, 1), answers[of][kind]);
                due("taken", x.make(1, f(0.75f)), answers[of][kind] == 1 ? 1 : MISSING);
            }
        }
        LoopMixer x = new LoopMixer();
        done(x.effect(0, FOLD, d(2.0)));
        done(x.rack(0, GAIN));
        done(x.hang(0, 0, 0));
        due("a fold of a gains' rack as fold", x.take(0, 0, FOLD, 1), 1);
        due("a fold of a gains' rack as gain", x.take(0, 0, GAIN, 1), 1);
        dueTold("it is a fold still", x, x.make(1, f(0.75f)), f(0.5f));
    }

    private static void takeNone() {
        for (int of = GAIN; of <= CRUSH; of++) {
            LoopMixer x = new LoopMixer();
            done(x.rack(2, of));
            for (int kind = GAIN; kind <= CRUSH; kind++) {
                done(x.effect(0, kind, d(1.0)));
                due("none of a rack for " + of + " as " + kind, x.take(2, 2, kind, 0), 0);
                due("none is there", x.make(0, 0), MISSING);
            }
        }
    }

    private static void takeFailures() {
        LoopMixer x = new LoopMixer();
        done(x.effect(0, GAIN, d(1.0)));
        hangAll(x, 1, GAIN, 0, 0, 0);
        for (int i = -1; i < 4; i++) {
            due("no rack, place " + i, x.take(0, i, GAIN, 0), MISSING);
            due("as another kind, place " + i, x.take(1, i, CRUSH, 0), i < 0 || i > 2 ? OUTSIDE : CAST);
            due("BAD kind, no rack, place " + i, x.take(0, i, 3, 0), BAD);
            due("BAD effect, no rack, place " + i, x.take(0, i, GAIN, 6), BAD);
            due("BAD kind, place " + i, x.take(1, i, -1, 0), BAD);
            due("BAD effect, place " + i, x.take(1, i, CRUSH, -1), BAD);
        }
    }

    private static void headParts() {
        LoopMixer x = new LoopMixer();
        for (int k = -3; k < 8; k++) {
            due("track " + k, x.head(0, k, -1, -1, d(1.0)), k >= 0 && k < 6 ? 1 : BAD);
            due("curve " + k, x.head(0, 0, k, -1, d(1.0)), k >= -1 && k < 6 ? 1 : BAD);
            due("rack " + k, x.head(0, 0, -1, k, d(1.0)), k >= -1 && k < 3 ? 1 : BAD);
        }
        for (int k : new int[] {Integer.MIN_VALUE, Integer.MAX_VALUE}) {
            due("track " + k, x.head(0, k, -1, -1, d(1.0)), BAD);
            due("curve " + k, x.head(0, 0, k, -1, d(1.0)), BAD);
            due("rack " + k, x.head(0, 0, -1, k, d(1.0)), BAD);
        }
    }

    private static void headIsSetAgain() {
        LoopMixer x = withHead(0.75, 1.0f, 2.0f);
        due("play", x.play(0, 2), 2);
        dueHead("on its way", x, 0, 1.5, 2);
        due("again", x.head(0, 0, -1, -1, d(1.0)), 1);
        dueHead("from the start", x, 0, 0.0, 0);
        dueMix("the mix stays", x, 1.0f, 1.0f);
    }

    private static void play0To64() {
        LoopMixer x = withHead(1.0, 1.0f);
        for (int n : new int[] {-1, 65, Integer.MIN_VALUE, Integer.MAX_VALUE}) {
            due("play " + n, x.play(0, n), BAD);
        }
        due("play 0", x.play(0, 0), 0);
        dueHead("no step", x, 0, 0.0, 0);
        due("play 1", x.play(0, 1), 1);
        dueHead("one step", x, 0, 0.0, 1);
        due("play 64", x.play(0, 64), 64);
        dueHead("64 steps", x, 0, 0.0, 65);
        dueMix("65 steps", x, 9.0f, 8.0f, 8.0f, 8.0f, 8.0f, 8.0f, 8.0f, 8.0f);
    }

    private static void play0OfAHeadThatWouldFail() {
        LoopMixer x = new LoopMixer();
        done(x.head(0, 5, -1, -1, d(1.0)));
        due("play 0", x.play(0, 0), 0);
        due("failed", x.failed(), 0);
        due("play 64", x.play(0, 64), 0);
        due("failed", x.failed(), MISSING);
    }

    private static void playOfAHeadNotSet() {
        LoopMixer x = withHead(1.0, 1.0f);
        for (int h = 1; h < 4; h++) {
            due("play", x.play(h, 1), BAD);
            due("play 0", x.play(h, 0), BAD);
        }
        done(x.head(3, 0, -1, -1, d(1.0)));
        due("play, set now", x.play(3, 1), 1);
    }

    private static void atAHeadNotSet() {
        LoopMixer x = withHead(1.0, 1.0f);
        for (int h = 1; h < 4; h++) {
            due("place", x.at(h, 0), BAD);
            due("steps", x.at(h, 1), BAD);
        }
        done(x.head(3, 0, -1, -1, d(1.0)));
        due("place, set now", x.at(3, 0), 1);
    }

    private static void failedOfTheLatestPlay() {
        LoopMixer x = withHead(1.0, 1.0f);
        due("none yet", x.failed(), 0);
        done(x.head(1, 5, -1, -1, d(1.0)));
        due("play", x.play(1, 1), 0);
        due("missing", x.failed(), MISSING);
        due("told again", x.failed(), MISSING);
        due("not by another head", x.play(0, 1), 1);
        due("none", x.failed(), 0);
        done(x.row(TRACK, 5, 0));
        due("play", x.play(1, 1), 0);
        due("outside", x.failed(), OUTSIDE);
        due("play 0", x.play(1, 0), 0);
        due("none ended it", x.failed(), 0);
    }

    private static void failedOfNoBadPlay() {
        LoopMixer x = withHead(1.0, 1.0f);
        done(x.head(1, 5, -1, -1, d(1.0)));
        due("play", x.play(1, 1), 0);
        due("BAD head", x.play(4, 1), BAD);
        due("missing stays", x.failed(), MISSING);
        due("BAD n", x.play(0, 65), BAD);
        due("missing stays", x.failed(), MISSING);
        due("a head not set", x.play(2, 1), BAD);
        due("missing stays", x.failed(), MISSING);
        due("play", x.play(0, 1), 1);
        due("BAD n", x.play(1, -1), BAD);
        due("none stays", x.failed(), 0);
    }

    private static void failedOfPlayAlone() {
        LoopMixer x = withHead(1.0, 1.0f);
        due("get", x.get(TRACK, 0, 1), OUTSIDE);
        due("make", x.make(0, 0), MISSING);
        due("wrap", x.wrap(TRACK, 0, 0, 1), OUTSIDE);
        due("none", x.failed(), 0);
        done(x.head(1, 5, -1, -1, d(1.0)));
        due("play", x.play(1, 1), 0);
        done(x.set(TRACK, 0, 0, 0));
        done(x.hush());
        done(x.head(1, 0, -1, -1, d(1.0)));
        due("missing", x.failed(), MISSING);
    }

    private static void dueCut(float item, int asInt, int low, long asLong) {
        LoopMixer x = withHead(0.0, item);
        due("play", x.play(0, 1), 1);
        dueTold(item + " by 32767.0", x, x.mix(0, 1), asInt);
        dueTold(item + " by its lowest 16", x, x.mix(0, 2), low);
        dueTold(item + " as a long", x, x.mix(0, 3), asLong);
    }

    private static void mixCutToAnInt() {
        dueCut(1.0f, 32767, 32767, 1);
        dueCut(-1.0f, -32767, -32767, -1);
        dueCut(0.99999994f, 32766, 32766, 0);
        dueCut(-0.99999994f, -32766, -32766, 0);
        dueCut(0.00003f, 0, 0, 0);
        dueCut(-0.00003f, 0, 0, 0);
        // As a float, the product would be 2147483648.0.
        dueCut(65538.0f, 2147483646, -2, 65538);
        dueCut(-65538.0f, -2147483646, 2, -65538);
        dueCut(65538.0078125f, Integer.MAX_VALUE, -1, 65538);
        dueCut(-65538.0078125f, Integer.MIN_VALUE, 0, -65538);
    }

    private static void mixLowest16WithASign() {
        dueCut(1.0000306f, 32768, -32768, 1);
        dueCut(-1.0000306f, -32768, -32768, -1);
        dueCut(-1.0000611f, -32769, 32767, -1);
        dueCut(2.0f, 65534, -2, 2);
        dueCut(2.0000612f, 65536, 0, 2);
        dueCut(3.0f, 98301, 32765, 3);
        dueCut(-3.0f, -98301, -32765, -3);
    }

    private static void mixCutToALong() {
        dueCut(MAX, Integer.MAX_VALUE, -1, Long.MAX_VALUE);
        dueCut(-MAX, Integer.MIN_VALUE, 0, Long.MIN_VALUE);
        dueCut(0x1p63f, Integer.MAX_VALUE, -1, Long.MAX_VALUE);
        dueCut(0x1.fffffep62f, Integer.MAX_VALUE, -1, 0x7fffff8000000000L);
        dueCut(-0x1p63f, Integer.MIN_VALUE, 0, Long.MIN_VALUE);
        dueCut(-0x1.fffffep62f, Integer.MIN_VALUE, 0, -0x7fffff8000000000L);
        dueCut(3e9f, Integer.MAX_VALUE, -1, 3000000000L);
        dueCut(-2.99f, -97973, -32437, -2);
    }

    private static void mixHow() {
        LoopMixer x = withHead(0.0, 1.5f);
        due("play", x.play(0, 8), 8);
        for (int i = 0; i < 8; i++) {
            dueTold("by bits", x, x.mix(i, 0), f(1.5f));
            dueTold("as an int", x, x.mix(i, 1), 49150);
            dueTold("its lowest 16", x, x.mix(i, 2), -16386);
            dueTold("as a long", x, x.mix(i, 3), 1);
        }
        for (int how : new int[] {-1, 4, Integer.MIN_VALUE, Integer.MAX_VALUE}) {
            due("how " + how, x.mix(0, how), BAD);
        }
    }

    private static void hushIsAllOfTheMix() {
        LoopMixer x = withHead(0.0, -1.0f);
        due("play", x.play(0, 8), 8);
        due("hush", x.hush(), 1);
        dueMix("each 0.0, without a sign", x);
        due("hush of silence", x.hush(), 1);
        dueMix("still", x);
        dueHead("the head stays", x, 0, 0.0, 8);
    }

    private static void atWhat() {
        LoopMixer x = withHead(0.5, 1.0f);
        due("play", x.play(0, 1), 1);
        dueTold("place", x, x.at(0, 0), d(0.5));
        dueTold("steps", x, x.at(0, 1), 1);
        for (int what : new int[] {-1, 2, Integer.MIN_VALUE, Integer.MAX_VALUE}) {
            due("what " + what, x.at(0, what), BAD);
        }
    }

    private static void clockRunsOver() {
        LoopMixer x = new LoopMixer();
        dueTold("greatest", x, x.clock(Long.MAX_VALUE, 0), Long.MAX_VALUE);
        dueTold("over", x, x.clock(1, 0), Long.MIN_VALUE);
        dueTold("back", x, x.clock(-1, 0), Long.MAX_VALUE);
        dueTold("twice the greatest", x, x.clock(Long.MAX_VALUE, 0), -2);
        dueTold("and least", x, x.clock(Long.MIN_VALUE, 0), Long.MAX_VALUE - 1);
        dueTold("and least", x, x.clock(Long.MIN_VALUE, 0), -2);
        dueTold("0", x, x.clock(2, 0), 0);
    }

    private static void clockHow() {
        LoopMixer x = new LoopMixer();
        long[] due = {12, f(12.0f), d(12.0), 12, 12, 12};
        done(x.clock(12, 0));
        for (int how = 0; how < 6; how++) {
            dueTold("how " + how, x, x.clock(0, how), due[how]);
        }
        for (int how : new int[] {-1, 6, Integer.MIN_VALUE, Integer.MAX_VALUE}) {
            due("how " + how, x.clock(1, how), BAD);
        }
        for (int how = 0; how < 6; how++) {
            done(x.clock(1, how));
        }
        dueTold("each how is n more", x, x.clock(0, 0), 18);
    }

    private static void dueClock(long time, float asFloat, double asDouble, long floatsLong, long doublesLong, int asInt) {
        LoopMixer x = new LoopMixer();
        dueTold(time + " as a float", x, x.clock(time, 1), f(asFloat));
        dueTold(time + " as a double", x, x.clock(0, 2), d(asDouble));
        dueTold(time + " as a float, cut to a long", x, x.clock(0, 3), floatsLong);
        dueTold(time + " as a double, cut to a long", x, x.clock(0, 4), doublesLong);
        dueTold(time + " as a float, cut to an int", x, x.clock(0, 5), asInt);
        dueTold(time + " itself", x, x.clock(0, 0), time);
    }

    private static void clockAsTheNearestFloat() {
        dueClock(0L, 0.0f, 0.0, 0, 0, 0);
        dueClock(16777217L, 16777216.0f, 16777217.0, 16777216, 16777217, 16777216);
        dueClock(16777219L, 16777220.0f, 16777219.0, 16777220, 16777219, 16777220);
        dueClock(-16777217L, -16777216.0f, -16777217.0, -16777216, -16777217, -16777216);
        // By way of a double, this would be rounded twice, and be one float less.
        long twice = (1L << 60) + (1L << 36) + 1;
        dueClock(twice, 0x1.000002p60f, 0x1.000001p60, (1L << 60) + (1L << 37), twice - 1, Integer.MAX_VALUE);
    }

    private static void clockAsTheNearestDouble() {
        long tie = (1L << 53) + 1;
        dueClock(tie, 0x1p53f, 0x1p53, 1L << 53, 1L << 53, Integer.MAX_VALUE);
        dueClock(tie + 2, 0x1p53f, 0x1p53 + 4.0, 1L << 53, tie + 3, Integer.MAX_VALUE);
        dueClock(-tie, -0x1p53f, -0x1p53, -(1L << 53), -(1L << 53), Integer.MIN_VALUE);
    }

    private static void clockCutAtTheEnds() {
        dueClock(Long.MAX_VALUE, 0x1p63f, 0x1p63, Long.MAX_VALUE, Long.MAX_VALUE, Integer.MAX_VALUE);
        dueClock(Long.MIN_VALUE, -0x1p63f, -0x1p63, Long.MIN_VALUE, Long.MIN_VALUE, Integer.MIN_VALUE);
        dueClock(Long.MAX_VALUE - 1, 0x1p63f, 0x1p63, Long.MAX_VALUE, Long.MAX_VALUE, Integer.MAX_VALUE);
        dueClock(Long.MIN_VALUE + 1, -0x1p63f, -0x1p63, Long.MIN_VALUE, Long.MIN_VALUE, Integer.MIN_VALUE);
        dueClock(2147483583L, 2147483520.0f, 2147483583.0, 2147483520L, 2147483583L, 2147483520);
        dueClock(2147483647L, 0x1p31f, 2147483647.0, 2147483648L, 2147483647L, Integer.MAX_VALUE);
        dueClock(2147483520L, 2147483520.0f, 2147483520.0, 2147483520L, 2147483520L, 2147483520);
        dueClock(2147483648L, 0x1p31f, 2147483648.0, 2147483648L, 2147483648L, Integer.MAX_VALUE);
        dueClock(-2147483648L, -0x1p31f, -2147483648.0, -2147483648L, -2147483648L, Integer.MIN_VALUE);
        dueClock(-2147483904L, -2147483904.0f, -2147483904.0, -2147483904L, -2147483904L, Integer.MIN_VALUE);
    }

    private static void toldIs0AtFirst() {
        LoopMixer x = withHead(1.0, 1.0f);
        due("told", x.told(), 0);
        due("play", x.play(0, 1), 1);
        due("hush", x.hush(), 1);
        due("told still", x.told(), 0);
    }

    private static void toldIsTheLatest() {
        LoopMixer x = withHead(1.0, 1.5f);
        done(x.effect(0, GAIN, d(2.0)));
        done(x.rack(0, GAIN));
        dueTold("get", x, x.get(TRACK, 0, 0), f(1.5f));
        dueTold("make", x, x.make(0, f(1.5f)), f(3.0f));
        due("play", x.play(0, 1), 1);
        dueTold("mix", x, x.mix(0, 3), 1);
        dueTold("at", x, x.at(0, 0), 0);
        dueTold("clock", x, x.clock(77, 0), 77);
        done(x.row(CURVE, 0, 1));
        done(x.set(CURVE, 0, 0, d(3.0)));
        done(x.wrap(CURVE, 0, 0, 0));
        done(x.share(CURVE, 0, 1));
        done(x.drop(CURVE, 0));
        done(x.effect(1, GAIN, d(2.0)));
        done(x.rack(1, GAIN));
        done(x.hang(1, 0, 0));
        done(x.take(1, 0, GAIN, 0));
        done(x.head(1, 0, -1, -1, d(1.0)));
        due("play", x.play(1, 1), 1);
        due("failed", x.failed(), 0);
        done(x.hush());
        due("none of these tells", x.told(), 77);
        due("told twice", x.told(), 77);
    }

    private static void whatItIs() {
        sentence("BITS of a float as an int, the lowest 32 of a long count", BoundaryTest::lowest32Count);
        sentence("BITS are told of a float as an int", BoundaryTest::floatsAreToldAsInts);
        sentence("BITS of a double 64", BoundaryTest::all64OfADoubleCount);
        sentence("BITS of what is ENDLESS are BAD: floats", BoundaryTest::endlessFloatsAreBad);
        sentence("BITS of what is ENDLESS are BAD: doubles", BoundaryTest::endlessDoublesAreBad);
        sentence("BITS of no number are BAD: floats", BoundaryTest::noFloatNumbersAreBad);
        sentence("BITS of no number are BAD: doubles", BoundaryTest::noDoubleNumbersAreBad);
        sentence("all numbers are held so that none ever is endless or none", BoundaryTest::noneEverIsEndlessOrNone);
        sentence("An object is used for at most 512 calls", BoundaryTest::the512thCallIsAnswered);
    }

    private static void termsOfNumbersAndRows() {
        sentence("HELD: the nearest one", BoundaryTest::heldIsTheNearest);
        sentence("HELD: of two the even one", BoundaryTest::heldIsTheEvenOneOfTwo);
        sentence("HELD: the nearest one, next to 0.0", BoundaryTest::heldNextToZero);
        sentence("HELD: beyond the greatest float (of either sign) becomes that", BoundaryTest::heldBeyondTheGreatest);
        sentence("v becomes v times c, HELD", BoundaryTest::heldAfterTheCurve);
        sentence("THE MIX becomes it and v, HELD", BoundaryTest::heldInTheMix);
        sentence("TRACKS 0 .. 5, CURVES 0 .. 5", BoundaryTest::rowsAre0To5);
        sentence("TRACKS have .. floats, CURVES .. doubles", BoundaryTest::tracksAreNoCurves);
        sentence("a row of 0", BoundaryTest::aRowOf0Items);
        sentence("a row of 16", BoundaryTest::aRowOf16Items);
        sentence("none at first", BoundaryTest::noneAtFirst);
        sentence("items 0.0", BoundaryTest::itemsAre0AtFirst);
        sentence("several may have one", BoundaryTest::severalMayHaveOneRow);
        sentence("FAILURES told as -10 less it", BoundaryTest::failuresAreToldAs10LessThem);
    }

    private static void termsOfEffectsAndRacks() {
        sentence("EFFECTS 0 .. 5", BoundaryTest::effectsAre0To5);
        sentence("EFFECTS are there or not (at first)", BoundaryTest::effectsAreNotThereAtFirst);
        sentence("KIND (0 .. 2)", BoundaryTest::kindsAre0To2);
        sentence("AMOUNT (a double of -1000000 to 1000000)", BoundaryTest::amountIsUpToAMillion);
        sentence("GAIN: s times AMOUNT, of zeros", BoundaryTest::gainKeepsTheSignOfZero);
        sentence("GAIN: times as of doubles", BoundaryTest::gainTimesAsDoubles);
        sentence("FOLD: if that is above 1.0, 2.0 less it", BoundaryTest::foldAbove1);
        sentence("FOLD: if it is below -1.0, -2.0 less it", BoundaryTest::foldBelowMinus1);
        sentence("FOLD: its rest by 2.0", BoundaryTest::foldRestsBy2);
        sentence("FOLD: HELD as a float then", BoundaryTest::foldOfTheProductAsADouble);
        sentence("CRUSH: the AMOUNT cut to an int", BoundaryTest::crushCutsTheAmount);
        sentence("CRUSH: 1, if that is below 1", BoundaryTest::crushBelow1IsBy1);
        sentence("CRUSH: s times m cut to a long, by m", BoundaryTest::crushCutsToALong);
        sentence("RACKS 0 .. 2", BoundaryTest::racksAre0To2);
        sentence("RACKS have 3 places", BoundaryTest::racksHave3Places);
        sentence("they have EFFECTS of that KIND (of GAIN: FOLDS, too)", BoundaryTest::racksHaveEffectsOfTheirKind);
        sentence("they have EFFECTS, or none", BoundaryTest::racksHaveNone);
    }

    private static void termsOfHeads() {
        sentence("HEADS 0 .. 3", BoundaryTest::headsAre0To3);
        sentence("-1 none of the latter two", BoundaryTest::noCurveAndNoRack);
        sentence("a TRACK, a CURVE, a RACK (by number)", BoundaryTest::partsAreByNumber);
        sentence("RATE (a double of -64 to 64)", BoundaryTest::rateIsUpTo64);
        sentence("PLACE 0.0 at first, STEPS 0", BoundaryTest::placeAndStepsAre0AtFirst);
        sentence("THE MIX has 8 floats (0.0)", BoundaryTest::theMixHas8Floats);
    }

    private static void termsOfSteps() {
        sentence("(1) i being PLACE cut to an int", BoundaryTest::placeIsCutToAnInt);
        sentence("(1) MISSING", BoundaryTest::trackMissing);
        sentence("(1) OUTSIDE", BoundaryTest::trackOutside);
        sentence("(1) OUTSIDE: no items", BoundaryTest::trackOfNoItems);
        sentence("(2) MISSING", BoundaryTest::curveMissing);
        sentence("(2) OUTSIDE, if it has no items", BoundaryTest::curveOfNoItems);
        sentence("(2) j being the rest of STEPS by how many it has", BoundaryTest::curveWrapsByHowManyItHas);
        sentence("(2) v times c, as doubles", BoundaryTest::curveTimesAsDoubles);
        sentence("(3) MISSING: no RACK", BoundaryTest::rackMissing);
        sentence("(3) MISSING: there is none in it", BoundaryTest::eachBarePlaceIsMissing);
        sentence("(3) for each place of it from 0 on", BoundaryTest::placesFrom0On);
        sentence("(3) what the EFFECT there MAKES: HELD", BoundaryTest::heldAfterEachEffect);
        sentence("A FAILURE ends it", BoundaryTest::theFirstFailureIsTold);
        sentence("(4) STEPS modulo 8", BoundaryTest::stepsModulo8);
        sentence("(4) it and v, as doubles", BoundaryTest::headsAddToTheSameMix);
        sentence("(5) the rest of PLACE and RATE by how many items the TRACK has", BoundaryTest::placeWrapsAtTheEnd);
        sentence("(5) if that is below 0.0, that many more", BoundaryTest::placeBelow0IsThatManyMore);
        sentence("(5) -0.0 is not below 0.0", BoundaryTest::placeMinus0IsNotBelow0);
        sentence("(5) if it is not below that many then, 0.0", BoundaryTest::placeNotBelowThatManyIs0);
        sentence("(5) how many items the TRACK has, by then", BoundaryTest::placeByTheTracksLengthNow);
    }

    private static void promises1To12() {
        sentence("1: Nothing is there; THE MIX 0.0, THE CLOCK 0", BoundaryTest::aNewObjectHasNothing);
        sentence("2: a new row of n (0 .. 16) items", BoundaryTest::rowOf0To16);
        sentence("3: or none: 0", BoundaryTest::shareNone);
        sentence("3: the very row, of itself", BoundaryTest::shareWithItself);
        sentence("4: whether it had one (1, 0)", BoundaryTest::dropTellsWhetherItHadOne);
        sentence("5: FAILURES 1, 2", BoundaryTest::setFailures);
        sentence("5: BAD; FAILURES", BoundaryTest::setBadBitsBeforeFailures);
        sentence("6: FAILURES 1, 2", BoundaryTest::getFailures);
        sentence("7: FAILURES 1, 2", BoundaryTest::wrapFailures);
        sentence("7: 5, if item j is 0", BoundaryTest::wrapBy0);
        sentence("7: its rest by item j", BoundaryTest::wrapEdges);
        sentence("7: of its width", BoundaryTest::wrapOfItsWidth);
        sentence("7: item i by item i", BoundaryTest::wrapByItself);
        sentence("8: An EFFECT", BoundaryTest::effectInsteadOfAnother);
        sentence("9: FAILURE 1: there is none", BoundaryTest::makeOfNone);
        sentence("10: with bare places", BoundaryTest::rackHasBarePlaces);
        sentence("11: Place i of a RACK gets EFFECT k", BoundaryTest::hangGetsTheEffectItself);
        sentence("11: BAD; FAILURES 1 (no RACK), 2 (0 .. 2), 4", BoundaryTest::hangFailures);
        sentence("12: taken as one of a KIND (GAIN: FOLDS, too)", BoundaryTest::takeAsOneOfAKind);
        sentence("12: none is of all: 0 (none)", BoundaryTest::takeNone);
        sentence("12: BAD; FAILURES 1, 2, 3", BoundaryTest::takeFailures);
    }

    private static void promises13To20() {
        sentence("13: BAD: TRACK, CURVE and RACK (-1, too)", BoundaryTest::headParts);
        sentence("13: its PLACE and STEPS 0", BoundaryTest::headIsSetAgain);
        sentence("14: n STEPS (0 .. 64)", BoundaryTest::play0To64);
        sentence("14: up to a FAILURE", BoundaryTest::play0OfAHeadThatWouldFail);
        sentence("14: BAD: also a HEAD that was not set", BoundaryTest::playOfAHeadNotSet);
        sentence("15: the latest play() (0: none did)", BoundaryTest::failedOfTheLatestPlay);
        sentence("15: that was not BAD", BoundaryTest::failedOfNoBadPlay);
        sentence("15: play()", BoundaryTest::failedOfPlayAlone);
        sentence("16: times 32767.0 (a double) cut to an int", BoundaryTest::mixCutToAnInt);
        sentence("16: that int's lowest 16 bits with a sign", BoundaryTest::mixLowest16WithASign);
        sentence("16: the item itself cut to a long", BoundaryTest::mixCutToALong);
        sentence("16: how", BoundaryTest::mixHow);
        sentence("17: THE MIX is 0.0", BoundaryTest::hushIsAllOfTheMix);
        sentence("18: what", BoundaryTest::atWhat);
        sentence("18: BAD: also one that was not set", BoundaryTest::atAHeadNotSet);
        sentence("19: n more (running over)", BoundaryTest::clockRunsOver);
        sentence("19: how", BoundaryTest::clockHow);
        sentence("19: as a float", BoundaryTest::clockAsTheNearestFloat);
        sentence("19: as a double", BoundaryTest::clockAsTheNearestDouble);
        sentence("19: cut", BoundaryTest::clockCutAtTheEnds);
        sentence("20: 0 at first", BoundaryTest::toldIs0AtFirst);
        sentence("20: What was TOLD latest", BoundaryTest::toldIsTheLatest);
    }

    public static void main(String[] args) {
        whatItIs();
        termsOfNumbersAndRows();
        termsOfEffectsAndRacks();
        termsOfHeads();
        termsOfSteps();
        promises1To12();
        promises13To20();
        System.out.println(sentences + " sentences, " + checks + " answers, " + wrong + " not as due");
        if (wrong != 0) {
            System.exit(1);
        }
    }
}
