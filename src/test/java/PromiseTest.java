/** Each promise of the document by hand: ordinary inputs, the edges that it names, and wrong inputs. */
public final class PromiseTest {
    private static final boolean TRACK = false;
    private static final boolean CURVE = true;
    private static final int BAD = -1;
    private static final int MISSING = -11;
    private static final int OUTSIDE = -12;
    private static final int CAST = -13;
    private static final int STORE = -14;
    private static final int BY_ZERO = -15;
    private static final int GAIN = 0;
    private static final int FOLD = 1;
    private static final int CRUSH = 2;
    private static final float MAX = Float.MAX_VALUE;

    private static int wrong = 0;

    private static void due(String what, long got, long want) {
        if (got != want) {
            wrong++;
            System.out.println(what + " answered " + got + ", due is " + want);
        }
    }

    private static void dueTold(String what, LoopMixer x, int answer, long want) {
        due(what, answer, 1);
        due(what + ", told", x.told(), want);
    }

    private static long f(float number) {
        return Float.floatToRawIntBits(number);
    }

    private static long d(double number) {
        return Double.doubleToRawLongBits(number);
    }

    private static LoopMixer withTrack(float... items) {
        LoopMixer x = new LoopMixer();
        setTrack(x, 0, items);
        return x;
    }

    private static void setTrack(LoopMixer x, int k, float... items) {
        due("row", x.row(TRACK, k, items.length), 1);
        for (int i = 0; i < items.length; i++) {
            due("set", x.set(TRACK, k, i, f(items[i])), 1);
        }
    }

    private static void setCurve(LoopMixer x, int k, double... items) {
        due("row", x.row(CURVE, k, items.length), 1);
        for (int i = 0; i < items.length; i++) {
            due("set", x.set(CURVE, k, i, d(items[i])), 1);
        }
    }

    private static void dueMix(String what, LoopMixer x, float... items) {
        for (int i = 0; i < 8; i++) {
            dueTold(what + ": mix " + i, x, x.mix(i, 0), f(i < items.length ? items[i] : 0.0f));
        }
    }

    private static void dueHead(String what, LoopMixer x, int h, double place, long steps) {
        dueTold(what + ": place", x, x.at(h, 0), d(place));
        dueTold(what + ": steps", x, x.at(h, 1), steps);
    }

    private static void newObject() {
        LoopMixer x = new LoopMixer();
        due("1: told", x.told(), 0);
        due("1: failed", x.failed(), 0);
        for (int k = 0; k < 6; k++) {
            due("1: no track", x.drop(TRACK, k), 0);
            due("1: no curve", x.drop(CURVE, k), 0);
            due("1: no effect", x.make(k, 0), MISSING);
        }
        for (int r = 0; r < 3; r++) {
            due("1: no rack", x.hang(r, 0, 0), MISSING);
        }
        for (int h = 0; h < 4; h++) {
            due("1: no head", x.at(h, 0), BAD);
            due("1: no head to play", x.play(h, 0), BAD);
        }
        dueMix("1", x);
        dueTold("1: clock", x, x.clock(0, 0), 0);
        due("1: BAD", LoopMixer.BAD, BAD);
    }

    private static void row() {
        for (boolean curve : new boolean[] {TRACK, CURVE}) {
            LoopMixer x = new LoopMixer();
            due("2: k -1", x.row(curve, -1, 1), BAD);
            due("2: k 6", x.row(curve, 6, 1), BAD);
            due("2: n -1", x.row(curve, 0, -1), BAD);
            due("2: n 17", x.row(curve, 0, 17), BAD);
            due("2: n greatest", x.row(curve, 0, Integer.MAX_VALUE), BAD);
            due("2: k least", x.row(curve, Integer.MIN_VALUE, 1), BAD);
            due("2: BAD changes nothing", x.drop(curve, 0), 0);
            due("2: n 0", x.row(curve, 0, 0), 1);
            due("2: no item", x.get(curve, 0, 0), OUTSIDE);
            due("2: n 16", x.row(curve, 5, 16), 1);
            dueTold("2: items are 0.0", x, x.get(curve, 5, 15), 0);
            due("2: no item 16", x.get(curve, 5, 16), OUTSIDE);
            due("2: the other side has none", x.get(!curve, 5, 0), MISSING);
            due("2: set", x.set(curve, 5, 2, 1), 1);
            due("2: BAD again", x.row(curve, 5, 17), BAD);
            dueTold("2: the row stays", x, x.get(curve, 5, 2), 1);
            due("2: again", x.row(curve, 5, 3), 1);
            dueTold("2: a new row", x, x.get(curve, 5, 2), 0);
            due("2: of 3", x.get(curve, 5, 3), OUTSIDE);
        }
    }

    private static void share() {
        for (boolean curve : new boolean[] {TRACK, CURVE}) {
            LoopMixer x = new LoopMixer();
            due("3: row", x.row(curve, 1, 2), 1);
            due("3: from -1", x.share(curve, -1, 1), BAD);
            due("3: from 6", x.share(curve, 6, 1), BAD);
            due("3: to -1", x.share(curve, 1, -1), BAD);
            due("3: to 6", x.share(curve, 1, 6), BAD);
            due("3: a row", x.share(curve, 1, 4), 1);
            due("3: set", x.set(curve, 4, 1, 7), 1);
            dueTold("3: the very row", x, x.get(curve, 1, 1), 7);
            due("3: set back", x.set(curve, 1, 0, 8), 1);
            dueTold("3: the very row back", x, x.get(curve, 4, 0), 8);
            due("3: itself", x.share(curve, 1, 1), 1);
            due("3: a new row", x.row(curve, 1, 2), 1);
            dueTold("3: the shared one stays", x, x.get(curve, 4, 1), 7);
            due("3: the other side", x.drop(!curve, 4), 0);
            due("3: none", x.share(curve, 0, 4), 0);
            due("3: has none", x.get(curve, 4, 0), MISSING);
        }
    }

    private static void drop() {
        for (boolean curve : new boolean[] {TRACK, CURVE}) {
            LoopMixer x = new LoopMixer();
            due("4: k -1", x.drop(curve, -1), BAD);
            due("4: k 6", x.drop(curve, 6), BAD);
            due("4: none", x.drop(curve, 5), 0);
            due("4: row", x.row(curve, 5, 0), 1);
            due("4: other row", x.row(!curve, 5, 0), 1);
            due("4: share", x.share(curve, 5, 0), 1);
            due("4: one", x.drop(curve, 5), 1);
            due("4: gone", x.drop(curve, 5), 0);
            due("4: the sharer's stays", x.drop(curve, 0), 1);
            due("4: the other side's stays", x.drop(!curve, 5), 1);
        }
    }

    private static void set() {
        LoopMixer x = new LoopMixer();
        due("5: row", x.row(TRACK, 0, 2), 1);
        due("5: row", x.row(CURVE, 0, 2), 1);
        for (boolean curve : new boolean[] {TRACK, CURVE}) {
            due("5: k -1", x.set(curve, -1, 0, 0), BAD);
            due("5: k 6", x.set(curve, 6, 0, 0), BAD);
            due("5: missing", x.set(curve, 1, 0, 0), MISSING);
            due("5: missing before outside", x.set(curve, 1, -1, 0), MISSING);
            due("5: i -1", x.set(curve, 0, -1, 0), OUTSIDE);
            due("5: i 2", x.set(curve, 0, 2, 0), OUTSIDE);
            due("5: i least", x.set(curve, 0, Integer.MIN_VALUE, 0), OUTSIDE);
        }
        for (float bad : new float[] {Float.POSITIVE_INFINITY, Float.NEGATIVE_INFINITY, Float.NaN}) {
            due("5: " + bad, x.set(TRACK, 0, 0, f(bad)), BAD);
            due("5: BAD before missing, " + bad, x.set(TRACK, 1, 0, f(bad)), BAD);
            due("5: BAD before outside, " + bad, x.set(TRACK, 0, 2, f(bad)), BAD);
            due("5: " + bad, x.set(CURVE, 0, 0, d(bad)), BAD);
            due("5: BAD before missing, " + bad, x.set(CURVE, 1, 0, d(bad)), BAD);
        }
        due("5: a NaN of another sort", x.set(TRACK, 0, 0, 0xff800001L), BAD);
        due("5: a NaN of another sort", x.set(CURVE, 0, 0, 0xfff0000000000001L), BAD);
        dueTold("5: BAD changes nothing", x, x.get(TRACK, 0, 0), 0);
        due("5: the lowest 32 count", x.set(TRACK, 0, 0, 0x7ff000003f800000L), 1);
        dueTold("5: the lowest 32 count", x, x.get(TRACK, 0, 0), f(1.0f));
        due("5: the lowest 32 are BAD", x.set(TRACK, 0, 0, 0x000000007f800000L), BAD);
        due("5: a double of the same bits", x.set(CURVE, 0, 0, 0x000000007f800000L), 1);
        dueTold("5: a double of the same bits", x, x.get(CURVE, 0, 0), 0x7f800000L);
        dueTold("5: only the one item", x, x.get(CURVE, 0, 1), 0);
    }

    private static void get() {
        LoopMixer x = withTrack(-1.5f, -0.0f, MAX, -Float.MIN_VALUE);
        setCurve(x, 0, -1.5, -0.0, Double.MAX_VALUE, -Double.MIN_VALUE);
        for (boolean curve : new boolean[] {TRACK, CURVE}) {
            due("6: k -1", x.get(curve, -1, 0), BAD);
            due("6: k 6", x.get(curve, 6, 0), BAD);
            due("6: missing", x.get(curve, 1, 9), MISSING);
            due("6: i -1", x.get(curve, 0, -1), OUTSIDE);
            due("6: i 4", x.get(curve, 0, 4), OUTSIDE);
        }
        due("6: nothing told yet", x.told(), 0);
        dueTold("6: -1.5f", x, x.get(TRACK, 0, 0), f(-1.5f));
        dueTold("6: -0.0f", x, x.get(TRACK, 0, 1), Integer.MIN_VALUE);
        dueTold("6: greatest float", x, x.get(TRACK, 0, 2), f(MAX));
        dueTold("6: smallest float", x, x.get(TRACK, 0, 3), Integer.MIN_VALUE + 1);
        dueTold("6: -1.5", x, x.get(CURVE, 0, 0), d(-1.5));
        dueTold("6: -0.0", x, x.get(CURVE, 0, 1), Long.MIN_VALUE);
        dueTold("6: greatest double", x, x.get(CURVE, 0, 2), d(Double.MAX_VALUE));
        dueTold("6: smallest double", x, x.get(CURVE, 0, 3), Long.MIN_VALUE + 1);
        due("6: a failure", x.get(CURVE, 0, 4), OUTSIDE);
        due("6: a failure tells nothing", x.told(), Long.MIN_VALUE + 1);
    }

    private static void wrap() {
        LoopMixer x = withTrack(7.5f, -7.5f, 2.0f, 0.0f, -0.0f, MAX, 0.1f, -4.0f);
        setCurve(x, 0, 7.5, -7.5, 2.0, 0.0, -0.0, Double.MAX_VALUE, 0.1, -4.0);
        for (boolean curve : new boolean[] {TRACK, CURVE}) {
            due("7: k -1", x.wrap(curve, -1, 0, 2), BAD);
            due("7: k 6", x.wrap(curve, 6, 0, 2), BAD);
            due("7: missing", x.wrap(curve, 1, 0, 2), MISSING);
            due("7: i -1", x.wrap(curve, 0, -1, 2), OUTSIDE);
            due("7: j 8", x.wrap(curve, 0, 0, 8), OUTSIDE);
            due("7: j -1", x.wrap(curve, 0, 0, -1), OUTSIDE);
            due("7: outside before 0", x.wrap(curve, 0, 8, 3), OUTSIDE);
            due("7: by 0.0", x.wrap(curve, 0, 0, 3), BY_ZERO);
            due("7: by -0.0", x.wrap(curve, 0, 0, 4), BY_ZERO);
            for (int i = 0; i < 2; i++) {
                due("7: " + i, x.wrap(curve, 0, i, 2), 1);
            }
            due("7: 0.0", x.wrap(curve, 0, 3, 2), 1);
            due("7: -0.0", x.wrap(curve, 0, 4, 7), 1);
            due("7: far", x.wrap(curve, 0, 5, 6), 1);
            due("7: no rest", x.wrap(curve, 0, 7, 7), 1);
        }
        due("7: nothing told", x.told(), 0);
        float[] floats = {1.5f, -1.5f, 2.0f, 0.0f, -0.0f, MAX % 0.1f, 0.1f, -0.0f};
        double[] doubles = {1.5, -1.5, 2.0, 0.0, -0.0, Double.MAX_VALUE % 0.1, 0.1, -0.0};
        for (int i = 0; i < 8; i++) {
            dueTold("7: float " + i, x, x.get(TRACK, 0, i), f(floats[i]));
            dueTold("7: double " + i, x, x.get(CURVE, 0, i), d(doubles[i]));
        }
    }

    private static void effect() {
        LoopMixer x = new LoopMixer();
        due("8: k -1", x.effect(-1, GAIN, d(1)), BAD);
        due("8: k 6", x.effect(6, GAIN, d(1)), BAD);
        due("8: kind -1", x.effect(0, -1, d(1)), BAD);
        due("8: kind 3", x.effect(0, 3, d(1)), BAD);
        due("8: above", x.effect(0, GAIN, d(Math.nextUp(1000000.0))), BAD);
        due("8: below", x.effect(0, GAIN, d(Math.nextDown(-1000000.0))), BAD);
        due("8: endless", x.effect(0, GAIN, d(Double.NEGATIVE_INFINITY)), BAD);
        due("8: no number", x.effect(0, GAIN, d(Double.NaN)), BAD);
        due("8: BAD changes nothing", x.make(0, 0), MISSING);
        due("8: most", x.effect(0, GAIN, d(1000000.0)), 1);
        due("8: least", x.effect(5, GAIN, d(-1000000.0)), 1);
        dueTold("8: most", x, x.make(0, f(1.0f)), f(1000000.0f));
        dueTold("8: least", x, x.make(5, f(1.0f)), f(-1000000.0f));
        due("8: BAD", x.effect(5, 3, d(1)), BAD);
        dueTold("8: stays", x, x.make(5, f(1.0f)), f(-1000000.0f));
        due("8: anew", x.effect(5, CRUSH, d(2.0)), 1);
        dueTold("8: anew", x, x.make(5, f(1.75f)), f(1.5f));
    }

    private static void dueMade(LoopMixer x, int kind, double amount, float sample, float want) {
        due("9: effect", x.effect(0, kind, d(amount)), 1);
        dueTold("9: kind " + kind + ", " + amount + " of " + sample, x, x.make(0, f(sample)), f(want));
    }

    private static void make() {
        LoopMixer x = new LoopMixer();
        due("9: k -1", x.make(-1, 0), BAD);
        due("9: k 6", x.make(6, 0), BAD);
        due("9: none", x.make(5, f(1.0f)), MISSING);
        due("9: BAD before missing", x.make(5, f(Float.NaN)), BAD);
        dueMade(x, GAIN, 2.5, -0.5f, -1.25f);
        due("9: endless", x.make(0, f(Float.POSITIVE_INFINITY)), BAD);
        due("9: no number", x.make(0, f(Float.NaN)), BAD);
        due("9: told stays", x.told(), f(-1.25f));
        dueTold("9: the lowest 32 count", x, x.make(0, 0x7ff000003f800000L), f(2.5f));
        dueMade(x, GAIN, 0.1, 3.0f, (float) (3.0 * 0.1));
        dueMade(x, GAIN, -1.0, 0.0f, -0.0f);
        dueMade(x, GAIN, 2.0, MAX, MAX);
        dueMade(x, GAIN, -2.0, MAX, -MAX);
        dueMade(x, GAIN, 1.00000001, MAX, MAX);
        dueMade(x, GAIN, 0.5, Float.MIN_VALUE, 0.0f);
        dueMade(x, GAIN, 0.5, 3 * Float.MIN_VALUE, 2 * Float.MIN_VALUE);
        dueMade(x, GAIN, -1e-6, Float.MIN_VALUE, -0.0f);
        dueMade(x, FOLD, 1.0, 1.0f, 1.0f);
        dueMade(x, FOLD, 1.0, -1.0f, -1.0f);
        dueMade(x, FOLD, 1.0, 1.25f, 0.75f);
        dueMade(x, FOLD, 1.0, -1.25f, -0.75f);
        dueMade(x, FOLD, 1.0, 2.25f, 0.25f);
        dueMade(x, FOLD, -1.0, 2.0f, -0.0f);
        dueMade(x, FOLD, 1.0, 3.5f, 0.5f);
        dueMade(x, FOLD, 1.0, -3.5f, -0.5f);
        // The product is not held as a float before its rest is taken.
        dueMade(x, FOLD, 3.0, 0.9f, (float) (0.9f * 3.0 - 2.0));
        dueMade(x, FOLD, 1000000.0, MAX, 0.0f);
        dueMade(x, FOLD, 0.3, MAX, (float) (2.0 - (MAX * 0.3) % 2.0 > 1.0 ? (MAX * 0.3) % 2.0 : 2.0 - (MAX * 0.3) % 2.0));
        dueMade(x, CRUSH, 4.9, 0.7f, 0.5f);
        dueMade(x, CRUSH, 4.9, -0.7f, -0.5f);
        dueMade(x, CRUSH, 3.0, 0.5f, (float) (1.0 / 3.0));
        dueMade(x, CRUSH, 0.9, 2.75f, 2.0f);
        dueMade(x, CRUSH, -7.0, 2.75f, 2.0f);
        dueMade(x, CRUSH, 2.0, -0.25f, 0.0f);
        dueMade(x, CRUSH, 1.0, MAX, (float) Long.MAX_VALUE);
        dueMade(x, CRUSH, 3.0, -MAX, (float) ((double) Long.MIN_VALUE / 3.0));
    }

    private static void rack() {
        LoopMixer x = new LoopMixer();
        due("10: r -1", x.rack(-1, GAIN), BAD);
        due("10: r 3", x.rack(3, GAIN), BAD);
        due("10: kind -1", x.rack(0, -1), BAD);
        due("10: kind 3", x.rack(0, 3), BAD);
        due("10: BAD changes nothing", x.hang(0, 0, 0), MISSING);
        due("10: effect", x.effect(0, FOLD, d(1)), 1);
        due("10: rack", x.rack(2, FOLD), 1);
        for (int i = 0; i < 3; i++) {
            due("10: bare", x.take(2, i, FOLD, 5), 0);
        }
        due("10: hang", x.hang(2, 1, 0), 1);
        due("10: BAD", x.rack(2, 3), BAD);
        due("10: stays", x.take(2, 1, FOLD, 5), 1);
        due("10: anew", x.rack(2, FOLD), 1);
        due("10: bare again", x.take(2, 1, FOLD, 5), 0);
    }

    private static void hang() {
        LoopMixer x = new LoopMixer();
        for (int kind = GAIN; kind <= CRUSH; kind++) {
            due("11: effect", x.effect(kind, kind, d(kind + 1)), 1);
        }
        due("11: no rack", x.hang(0, 0, 0), MISSING);
        due("11: no rack before place", x.hang(0, 3, 0), MISSING);
        int[][] answers = {{1, 1, STORE}, {STORE, 1, STORE}, {STORE, STORE, 1}};
        for (int r = 0; r < 3; r++) {
            due("11: rack", x.rack(r, r), 1);
            for (int k = 0; k < 3; k++) {
                due("11: effect " + k + " in rack " + r, x.hang(r, k, k), answers[r][k]);
                due("11: hung", x.take(r, k, k, 5), answers[r][k] == 1 ? 1 : 0);
            }
            due("11: none", x.hang(r, 0, 4), 1);
            due("11: none is there", x.take(r, 0, GAIN, 5), 0);
        }
        due("11: r -1", x.hang(-1, 0, 0), BAD);
        due("11: r 3", x.hang(3, 0, 0), BAD);
        due("11: k -1", x.hang(0, 0, -1), BAD);
        due("11: k 6", x.hang(0, 0, 6), BAD);
        due("11: BAD before outside", x.hang(0, 3, 6), BAD);
        due("11: i -1", x.hang(0, -1, 0), OUTSIDE);
        due("11: i 3", x.hang(0, 3, 0), OUTSIDE);
        due("11: outside before store", x.hang(0, 3, 2), OUTSIDE);
        due("11: outside, of none", x.hang(0, 3, 4), OUTSIDE);
        due("11: hang", x.hang(0, 0, 0), 1);
        due("11: store", x.hang(0, 0, 2), STORE);
        due("11: effect 0 anew", x.effect(0, CRUSH, d(1)), 1);
        due("11: the hung one stays", x.take(0, 0, GAIN, 5), 1);
        dueTold("11: the hung one stays", x, x.make(5, f(3.0f)), f(3.0f));
    }

    private static void take() {
        LoopMixer x = new LoopMixer();
        due("12: no rack", x.take(0, 0, GAIN, 0), MISSING);
        due("12: no rack before place", x.take(0, 3, GAIN, 0), MISSING);
        due("12: rack", x.rack(0, GAIN), 1);
        due("12: rack", x.rack(1, CRUSH), 1);
        due("12: gain", x.effect(0, GAIN, d(2)), 1);
        due("12: fold", x.effect(1, FOLD, d(3)), 1);
        due("12: crush", x.effect(2, CRUSH, d(4)), 1);
        due("12: hang", x.hang(0, 0, 0), 1);
        due("12: hang", x.hang(0, 1, 1), 1);
        due("12: hang", x.hang(1, 0, 2), 1);
        due("12: r -1", x.take(-1, 0, GAIN, 0), BAD);
        due("12: r 3", x.take(3, 0, GAIN, 0), BAD);
        due("12: kind -1", x.take(0, 0, -1, 0), BAD);
        due("12: kind 3", x.take(0, 0, 3, 0), BAD);
        due("12: k -1", x.take(0, 0, GAIN, -1), BAD);
        due("12: k 6", x.take(0, 0, GAIN, 6), BAD);
        due("12: BAD before outside", x.take(0, 3, 3, 0), BAD);
        due("12: i -1", x.take(0, -1, GAIN, 0), OUTSIDE);
        due("12: i 3", x.take(0, 3, GAIN, 0), OUTSIDE);
        due("12: into 3", x.take(0, 0, GAIN, 3), 1);
        dueTold("12: a gain", x, x.make(3, f(1.5f)), f(3.0f));
        due("12: a gain as fold", x.take(0, 0, FOLD, 3), CAST);
        due("12: a gain as crush", x.take(0, 0, CRUSH, 3), CAST);
        dueTold("12: still the gain", x, x.make(3, f(1.5f)), f(3.0f));
        due("12: a fold as gain", x.take(0, 1, GAIN, 3), 1);
        dueTold("12: still a fold", x, x.make(3, f(0.5f)), f(0.5f));
        due("12: a fold as fold", x.take(0, 1, FOLD, 4), 1);
        due("12: a fold as crush", x.take(0, 1, CRUSH, 4), CAST);
        due("12: a crush as crush", x.take(1, 0, CRUSH, 5), 1);
        dueTold("12: a crush", x, x.make(5, f(0.9f)), f(0.75f));
        due("12: a crush as gain", x.take(1, 0, GAIN, 5), CAST);
        due("12: a crush as fold", x.take(1, 0, FOLD, 5), CAST);
        for (int kind = GAIN; kind <= CRUSH; kind++) {
            due("12: none as " + kind, x.take(0, 2, kind, kind), 0);
            due("12: becomes none", x.make(kind, 0), MISSING);
        }
        due("12: the place keeps it", x.take(0, 0, GAIN, 3), 1);
    }

    private static void head() {
        LoopMixer x = withTrack(1, 2, 3);
        due("13: h -1", x.head(-1, 0, -1, -1, d(1)), BAD);
        due("13: h 4", x.head(4, 0, -1, -1, d(1)), BAD);
        due("13: track -1", x.head(0, -1, -1, -1, d(1)), BAD);
        due("13: track 6", x.head(0, 6, -1, -1, d(1)), BAD);
        due("13: curve -2", x.head(0, 0, -2, -1, d(1)), BAD);
        due("13: curve 6", x.head(0, 0, 6, -1, d(1)), BAD);
        due("13: rack -2", x.head(0, 0, -1, -2, d(1)), BAD);
        due("13: rack 3", x.head(0, 0, -1, 3, d(1)), BAD);
        due("13: rate above", x.head(0, 0, -1, -1, d(Math.nextUp(64.0))), BAD);
        due("13: rate below", x.head(0, 0, -1, -1, d(Math.nextDown(-64.0))), BAD);
        due("13: rate endless", x.head(0, 0, -1, -1, d(Double.POSITIVE_INFINITY)), BAD);
        due("13: rate no number", x.head(0, 0, -1, -1, d(Double.NaN)), BAD);
        due("13: BAD changes nothing", x.at(0, 0), BAD);
        due("13: rate 64", x.head(0, 5, 5, 2, d(64)), 1);
        dueHead("13: set", x, 0, 0.0, 0);
        due("13: rate -64", x.head(3, 0, -1, -1, d(-64)), 1);
        due("13: play", x.play(3, 2), 2);
        dueHead("13: -64 and -64 by 3", x, 3, 1.0, 2);
        due("13: BAD", x.head(3, 0, -1, 3, d(1)), BAD);
        dueHead("13: stays", x, 3, 1.0, 2);
        due("13: again", x.head(3, 0, -1, -1, d(0.75)), 1);
        dueHead("13: from the start", x, 3, 0.0, 0);
        due("13: play", x.play(3, 3), 3);
        dueHead("13: its rate", x, 3, 2.25, 3);
    }

    private static void playBad() {
        LoopMixer x = withTrack(1, 2);
        due("14: not set", x.play(0, 1), BAD);
        due("14: head", x.head(0, 0, -1, -1, d(1)), 1);
        due("14: h -1", x.play(-1, 1), BAD);
        due("14: h 4", x.play(4, 1), BAD);
        due("14: n -1", x.play(0, -1), BAD);
        due("14: n 65", x.play(0, 65), BAD);
        dueHead("14: BAD does nothing", x, 0, 0.0, 0);
        due("14: n 0", x.play(0, 0), 0);
        dueHead("14: no steps", x, 0, 0.0, 0);
        due("14: n 64", x.play(0, 64), 64);
        dueHead("14: 64 steps", x, 0, 0.0, 64);
        dueMix("14: 8 each", x, 8, 16, 8, 16, 8, 16, 8, 16);
    }

    private static void playPlaces() {
        LoopMixer x = withTrack(1, 2, 3);
        due("14: head", x.head(0, 0, -1, -1, d(1.5)), 1);
        due("14: play", x.play(0, 4), 4);
        dueMix("14: items by the cut place", x, 1, 2, 1, 2);
        due("14: head", x.head(1, 0, -1, -1, d(-0.5)), 1);
        due("14: play", x.play(1, 2), 2);
        dueHead("14: below 0.0", x, 1, 2.0, 2);
        dueMix("14: it and v", x, 2, 5, 1, 2);
        due("14: head", x.head(1, 0, -1, -1, d(-3.0)), 1);
        due("14: play", x.play(1, 1), 1);
        dueHead("14: -0.0 is not below 0.0", x, 1, -0.0, 1);
        due("14: and on", x.play(1, 1), 1);
        due("14: head", x.head(1, 0, -1, -1, d(-1e-300)), 1);
        due("14: play", x.play(1, 1), 1);
        dueHead("14: not below 3 then", x, 1, 0.0, 1);
        due("14: row of one", x.row(TRACK, 1, 1), 1);
        due("14: head", x.head(2, 1, -1, -1, d(0.25)), 1);
        due("14: play", x.play(2, 3), 3);
        dueHead("14: within one item", x, 2, 0.75, 3);
        due("14: head", x.head(2, 1, -1, -1, d(-0.0)), 1);
        due("14: play", x.play(2, 3), 3);
        dueHead("14: 0.0 and -0.0", x, 2, 0.0, 3);
    }

    private static void playCurves() {
        LoopMixer x = withTrack(1, -2);
        setCurve(x, 3, 0.5, 1e300, 0.1);
        due("14: head", x.head(0, 0, 3, -1, d(1)), 1);
        due("14: play", x.play(0, 5), 5);
        dueMix("14: times the curve", x, 0.5f, -MAX, 0.1f, -1.0f, MAX);
        due("14: again", x.head(0, 0, 3, -1, d(1)), 1);
        due("14: play", x.play(0, 2), 2);
        dueMix("14: the sum is held", x, 1.0f, -MAX, 0.1f, -1.0f, MAX);
        setCurve(x, 3, Double.MAX_VALUE);
        setTrack(x, 0, MAX);
        due("14: hush", x.hush(), 1);
        due("14: again", x.head(0, 0, 3, -1, d(1)), 1);
        due("14: play", x.play(0, 1), 1);
        dueMix("14: an endless product is held", x, MAX);
        setCurve(x, 3, -Double.MIN_VALUE);
        due("14: play", x.play(0, 1), 1);
        dueMix("14: a product of next to nothing", x, MAX);
    }

    private static void playRacks() {
        LoopMixer x = withTrack(0.5f);
        due("14: gain", x.effect(0, GAIN, d(3)), 1);
        due("14: fold", x.effect(1, FOLD, d(1)), 1);
        due("14: rack", x.rack(1, GAIN), 1);
        due("14: hang", x.hang(1, 0, 0), 1);
        due("14: hang", x.hang(1, 1, 1), 1);
        due("14: head", x.head(0, 0, -1, 1, d(1)), 1);
        due("14: a bare place", x.play(0, 3), 0);
        due("14: a bare place", x.failed(), MISSING);
        dueMix("14: nothing is done", x);
        dueHead("14: nothing is done", x, 0, 0.0, 0);
        due("14: hang", x.hang(1, 2, 0), 1);
        due("14: play", x.play(0, 1), 1);
        dueMix("14: from place 0 on", x, 1.5f);
        setCurve(x, 0, 3);
        due("14: head", x.head(0, 0, 0, 1, d(1)), 1);
        due("14: play", x.play(0, 1), 1);
        dueMix("14: the curve comes first", x, 3.0f);
        due("14: rack anew", x.rack(1, CRUSH), 1);
        due("14: the head has it by number", x.play(0, 1), 0);
        due("14: bare", x.failed(), MISSING);
        due("14: crush", x.effect(2, CRUSH, d(1)), 1);
        for (int i = 0; i < 3; i++) {
            due("14: hang", x.hang(1, i, 2), 1);
        }
        due("14: play", x.play(0, 1), 1);
        dueMix("14: the new rack", x, 3.0f, 1.0f);
    }

    private static void playHoldsEachEffect() {
        LoopMixer x = withTrack(MAX);
        due("14: rack", x.rack(0, GAIN), 1);
        due("14: louder", x.effect(0, GAIN, d(4)), 1);
        due("14: quieter", x.effect(1, GAIN, d(0.25)), 1);
        due("14: as it is", x.effect(2, GAIN, d(1)), 1);
        for (int i = 0; i < 3; i++) {
            due("14: hang", x.hang(0, i, i), 1);
        }
        due("14: head", x.head(0, 0, -1, 0, d(1)), 1);
        due("14: play", x.play(0, 1), 1);
        dueMix("14: held between effects", x, (float) (MAX * 0.25));
    }

    private static void failed() {
        LoopMixer x = withTrack(1, 2, 3);
        due("15: head", x.head(0, 0, -1, -1, d(2)), 1);
        due("15: head", x.head(1, 5, 5, 2, d(1)), 1);
        due("15: play", x.play(0, 1), 1);
        due("15: none", x.failed(), 0);
        due("15: missing", x.play(1, 2), 0);
        due("15: missing", x.failed(), MISSING);
        due("15: BAD", x.play(1, 65), BAD);
        due("15: BAD", x.play(3, 1), BAD);
        due("15: stays", x.failed(), MISSING);
        due("15: other failures", x.get(TRACK, 0, 3), OUTSIDE);
        due("15: stay out", x.failed(), MISSING);
        due("15: no steps", x.play(1, 0), 0);
        due("15: none ended it", x.failed(), 0);
        due("15: shorter", x.row(TRACK, 0, 2), 1);
        due("15: outside", x.play(0, 2), 0);
        due("15: outside", x.failed(), OUTSIDE);
        dueHead("15: nothing is done", x, 0, 2.0, 1);
        due("15: longer", x.row(TRACK, 0, 3), 1);
        due("15: play", x.play(0, 1), 1);
        due("15: none", x.failed(), 0);
        due("15: no items", x.row(TRACK, 5, 0), 1);
        due("15: no items", x.play(1, 1), 0);
        due("15: no items", x.failed(), OUTSIDE);
        due("15: items", x.row(TRACK, 5, 1), 1);
        due("15: no curve", x.play(1, 1), 0);
        due("15: no curve", x.failed(), MISSING);
        due("15: curve of none", x.row(CURVE, 5, 0), 1);
        due("15: curve of none", x.play(1, 1), 0);
        due("15: curve of none", x.failed(), OUTSIDE);
        due("15: curve", x.row(CURVE, 5, 1), 1);
        due("15: no rack", x.play(1, 1), 0);
        due("15: no rack", x.failed(), MISSING);
        due("15: told", x.told(), 1);
    }

    private static void mix() {
        LoopMixer x = withTrack(0.5f, -0.75f, 3.0f, -3.0f, MAX, -MAX, -0.0f, 1e10f);
        due("16: head", x.head(0, 0, -1, -1, d(1)), 1);
        due("16: play", x.play(0, 8), 8);
        due("16: i -1", x.mix(-1, 0), BAD);
        due("16: i 8", x.mix(8, 0), BAD);
        due("16: how -1", x.mix(0, -1), BAD);
        due("16: how 4", x.mix(0, 4), BAD);
        due("16: BAD tells nothing", x.told(), 0);
        dueMix("16", x, 0.5f, -0.75f, 3.0f, -3.0f, MAX, -MAX, 0.0f, 1e10f);
        int[] ints = {16383, -24575, 98301, -98301, Integer.MAX_VALUE, Integer.MIN_VALUE, 0, Integer.MAX_VALUE};
        int[] shorts = {16383, -24575, 32765, -32765, -1, 0, 0, -1};
        long[] longs = {0, 0, 3, -3, Long.MAX_VALUE, Long.MIN_VALUE, 0, 10000000000L};
        for (int i = 0; i < 8; i++) {
            dueTold("16: int " + i, x, x.mix(i, 1), ints[i]);
            dueTold("16: short " + i, x, x.mix(i, 2), shorts[i]);
            dueTold("16: long " + i, x, x.mix(i, 3), longs[i]);
        }
    }

    private static void hush() {
        LoopMixer x = withTrack(-1);
        due("17: head", x.head(0, 0, -1, -1, d(1)), 1);
        due("17: play", x.play(0, 9), 9);
        due("17: hush", x.hush(), 1);
        due("17: tells nothing", x.told(), 0);
        dueMix("17", x);
        dueHead("17: heads stay", x, 0, 0.0, 9);
        due("17: play", x.play(0, 1), 1);
        dueMix("17: steps go on", x, 0.0f, -1.0f);
    }

    private static void at() {
        LoopMixer x = withTrack(1, 2, 3, 4);
        due("18: not set", x.at(2, 0), BAD);
        due("18: head", x.head(2, 0, -1, -1, d(0.1)), 1);
        due("18: play", x.play(2, 3), 3);
        due("18: h -1", x.at(-1, 0), BAD);
        due("18: h 4", x.at(4, 0), BAD);
        due("18: what -1", x.at(2, -1), BAD);
        due("18: what 2", x.at(2, 2), BAD);
        due("18: BAD tells nothing", x.told(), 0);
        dueHead("18", x, 2, 0.1 + 0.1 + 0.1, 3);
    }

    private static void clock() {
        LoopMixer x = new LoopMixer();
        due("19: how -1", x.clock(5, -1), BAD);
        due("19: how 6", x.clock(5, 6), BAD);
        dueTold("19: BAD changes nothing", x, x.clock(0, 0), 0);
        dueTold("19: it", x, x.clock(16777217, 0), 16777217);
        dueTold("19: a float's bits", x, x.clock(0, 1), f(16777216.0f));
        dueTold("19: a double's bits", x, x.clock(0, 2), d(16777217.0));
        dueTold("19: a float cut to a long", x, x.clock(0, 3), 16777216);
        dueTold("19: a double cut to a long", x, x.clock(0, 4), 16777217);
        dueTold("19: a float cut to an int", x, x.clock(2, 5), 16777220);
        dueTold("19: to the greatest", x, x.clock(Long.MAX_VALUE - 16777219, 0), Long.MAX_VALUE);
        dueTold("19: greatest float's", x, x.clock(0, 1), f(0x1p63f));
        dueTold("19: greatest double's", x, x.clock(0, 2), d(0x1p63));
        dueTold("19: greatest, float, long", x, x.clock(0, 3), Long.MAX_VALUE);
        dueTold("19: greatest, double, long", x, x.clock(0, 4), Long.MAX_VALUE);
        dueTold("19: greatest, float, int", x, x.clock(0, 5), Integer.MAX_VALUE);
        dueTold("19: running over", x, x.clock(1, 0), Long.MIN_VALUE);
        dueTold("19: least, float, int", x, x.clock(0, 5), Integer.MIN_VALUE);
        dueTold("19: least, double's", x, x.clock(0, 2), d(-0x1p63));
        // By way of a double, this would be rounded twice and come out one float lower.
        long twice = (1L << 60) + (1L << 36) + 1;
        dueTold("19: rounded once", x, x.clock(twice - Long.MIN_VALUE, 1), f((float) twice));
        dueTold("19: rounded once", x, x.clock(0, 3), (1L << 60) + (1L << 37));
        dueTold("19: back", x, x.clock(-twice, 1), 0);
    }

    private static void told() {
        LoopMixer x = withTrack(1);
        due("20: 0 at first", x.told(), 0);
        dueTold("20: clock", x, x.clock(-3, 0), -3);
        due("20: again", x.told(), -3);
        due("20: effect", x.effect(0, GAIN, d(1)), 1);
        due("20: rack", x.rack(0, GAIN), 1);
        due("20: hang", x.hang(0, 0, 0), 1);
        due("20: take", x.take(0, 0, GAIN, 1), 1);
        due("20: head", x.head(0, 0, -1, -1, d(0)), 1);
        due("20: play", x.play(0, 2), 2);
        due("20: failed", x.failed(), 0);
        due("20: hush", x.hush(), 1);
        due("20: wrap", x.wrap(TRACK, 0, 0, 0), 1);
        due("20: share", x.share(TRACK, 0, 1), 1);
        due("20: drop", x.drop(TRACK, 1), 1);
        due("20: bad clock", x.clock(1, 6), BAD);
        due("20: none of these tells", x.told(), -3);
        dueTold("20: make", x, x.make(0, f(2)), f(2));
        dueTold("20: at", x, x.at(0, 1), 2);
        dueTold("20: get", x, x.get(TRACK, 0, 0), 0);
        LoopMixer y = new LoopMixer();
        dueTold("20: clock", x, x.clock(9, 0), 6);
        due("20: each object has its own", y.told(), 0);
    }

    public static void main(String[] args) {
        newObject();
        row();
        share();
        drop();
        set();
        get();
        wrap();
        effect();
        make();
        rack();
        hang();
        take();
        head();
        playBad();
        playPlaces();
        playCurves();
        playRacks();
        playHoldsEachEffect();
        failed();
        mix();
        hush();
        at();
        clock();
        told();
        System.out.println(wrong == 0 ? "all answers are as due" : wrong + " answers are not as due");
        if (wrong != 0) {
            System.exit(1);
        }
    }
}
