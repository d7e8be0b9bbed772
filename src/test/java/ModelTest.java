import java.util.Arrays;
import java.util.Random;

/** Long random runs of calls, each answer against that of a plain model that uses the Java library. */
public final class ModelTest {
    private static final int RUNS = 60000;
    private static final int CALLS = 512;

    /** The document's words in plain Java: native bits, the operator %, real rows. */
    private static final class Model {
        float[][] tracks = new float[6][];
        double[][] curves = new double[6][];
        int[] kinds = {-1, -1, -1, -1, -1, -1};
        double[] amounts = new double[6];
        int[] rackKinds = {-1, -1, -1};
        int[][] placeKinds = new int[3][3];
        double[][] placeAmounts = new double[3][3];
        boolean[] set = new boolean[4];
        int[][] headParts = new int[4][3];
        double[] rates = new double[4];
        double[] places = new double[4];
        long[] steps = new long[4];
        float[] mix = new float[8];
        int ending = 0;
        long clock = 0;
        long told = 0;

        static boolean in(int number, int bound) {
            return number >= 0 && number < bound;
        }

        static float held(double number) {
            float cast = (float) number;
            return Float.isInfinite(cast) ? Math.copySign(Float.MAX_VALUE, cast) : cast;
        }

        static boolean fits(int effectKind, int kind) {
            return effectKind == -1 || effectKind == kind || effectKind == 1 && kind == 0;
        }

        static float made(int kind, double amount, float sample) {
            double number = sample;
            if (kind == 2) {
                int m = (int) amount < 1 ? 1 : (int) amount;
                return held((double) (long) (number * (double) m) / (double) m);
            }
            number = number * amount;
            if (kind == 1) {
                number = number % 2.0;
                number = number > 1.0 ? 2.0 - number : number < -1.0 ? -2.0 - number : number;
            }
            return held(number);
        }

        int length(boolean curve, int k) {
            return curve ? curves[k] == null ? -1 : curves[k].length : tracks[k] == null ? -1 : tracks[k].length;
        }

        int tell(long what) {
            told = what;
            return 1;
        }

        int row(boolean curve, int k, int n) {
            if (!in(k, 6) || !in(n, 17)) {
                return -1;
            }
            if (curve) {
                curves[k] = new double[n];
            } else {
                tracks[k] = new float[n];
            }
            return 1;
        }

        int share(boolean curve, int from, int to) {
            if (!in(from, 6) || !in(to, 6)) {
                return -1;
            }
            if (curve) {
                curves[to] = curves[from];
            } else {
                tracks[to] = tracks[from];
            }
            return length(curve, from) < 0 ? 0 : 1;
        }

        int drop(boolean curve, int k) {
            if (!in(k, 6)) {
                return -1;
            }
            int had = length(curve, k) < 0 ? 0 : 1;
            if (curve) {
                curves[k] = null;
            } else {
                tracks[k] = null;
            }
            return had;
        }

        int set(boolean curve, int k, int i, long bits) {
            double number = curve ? Double.longBitsToDouble(bits) : Float.intBitsToFloat((int) bits);
            if (!in(k, 6) || !Double.isFinite(number)) {
                return -1;
            }
            if (length(curve, k) < 0) {
                return -11;
            }
            if (!in(i, length(curve, k))) {
                return -12;
            }
            if (curve) {
                curves[k][i] = number;
            } else {
                tracks[k][i] = (float) number;
            }
            return 1;
        }

        int get(boolean curve, int k, int i) {
            if (!in(k, 6)) {
                return -1;
            }
            if (length(curve, k) < 0) {
                return -11;
            }
            if (!in(i, length(curve, k))) {
                return -12;
            }
            return tell(curve ? Double.doubleToRawLongBits(curves[k][i]) : Float.floatToRawIntBits(tracks[k][i]));
        }

        int wrap(boolean curve, int k, int i, int j) {
            if (!in(k, 6)) {
                return -1;
            }
            if (length(curve, k) < 0) {
                return -11;
            }
            if (!in(i, length(curve, k)) || !in(j, length(curve, k))) {
                return -12;
            }
            if (curve ? curves[k][j] == 0 : tracks[k][j] == 0) {
                return -15;
            }
            if (curve) {
                curves[k][i] %= curves[k][j];
            } else {
                tracks[k][i] %= tracks[k][j];
            }
            return 1;
        }

        int effect(int k, int kind, long bits) {
            double amount = Double.longBitsToDouble(bits);
            if (!in(k, 6) || !in(kind, 3) || !(Math.abs(amount) <= 1000000)) {
                return -1;
            }
            kinds[k] = kind;
            amounts[k] = amount;
            return 1;
        }

        int make(int k, long bits) {
            float sample = Float.intBitsToFloat((int) bits);
            if (!in(k, 6) || !Float.isFinite(sample)) {
                return -1;
            }
            return kinds[k] < 0 ? -11 : tell(Float.floatToRawIntBits(made(kinds[k], amounts[k], sample)));
        }

        int rack(int r, int kind) {
            if (!in(r, 3) || !in(kind, 3)) {
                return -1;
            }
            rackKinds[r] = kind;
            Arrays.fill(placeKinds[r], -1);
            return 1;
        }

        int hang(int r, int i, int k) {
            if (!in(r, 3) || !in(k, 6)) {
                return -1;
            }
            if (rackKinds[r] < 0 || !in(i, 3)) {
                return rackKinds[r] < 0 ? -11 : -12;
            }
            if (!fits(kinds[k], rackKinds[r])) {
                return -14;
            }
            placeKinds[r][i] = kinds[k];
            placeAmounts[r][i] = amounts[k];
            return 1;
        }

        int take(int r, int i, int kind, int k) {
            if (!in(r, 3) || !in(kind, 3) || !in(k, 6)) {
                return -1;
            }
            if (rackKinds[r] < 0 || !in(i, 3)) {
                return rackKinds[r] < 0 ? -11 : -12;
            }
            if (!fits(placeKinds[r][i], kind)) {
                return -13;
            }
            kinds[k] = placeKinds[r][i];
            amounts[k] = placeAmounts[r][i];
            return kinds[k] < 0 ? 0 : 1;
        }

        int head(int h, int track, int curve, int rack, long bits) {
            double rate = Double.longBitsToDouble(bits);
            if (!in(h, 4) || !in(track, 6) || !in(curve + 1, 7) || !in(rack + 1, 4) || !(Math.abs(rate) <= 64)) {
                return -1;
            }
            set[h] = true;
            headParts[h] = new int[] {track, curve, rack};
            rates[h] = rate;
            places[h] = 0.0;
            steps[h] = 0;
            return 1;
        }

        int step(int h) {
            float[] track = tracks[headParts[h][0]];
            int i = (int) places[h];
            if (track == null || i >= track.length) {
                return track == null ? -11 : -12;
            }
            float v = track[i];
            if (headParts[h][1] >= 0) {
                double[] curve = curves[headParts[h][1]];
                if (curve == null || curve.length == 0) {
                    return curve == null ? -11 : -12;
                }
                v = held((double) v * curve[(int) (steps[h] % curve.length)]);
            }
            int r = headParts[h][2];
            if (r >= 0) {
                for (int p = 0; p < 3; p++) {
                    if (rackKinds[r] < 0 || placeKinds[r][p] < 0) {
                        return -11;
                    }
                    v = made(placeKinds[r][p], placeAmounts[r][p], v);
                }
            }
            int m = (int) (steps[h] % 8);
            mix[m] = held((double) mix[m] + (double) v);
            double place = (places[h] + rates[h]) % track.length;
            if (place < 0.0) {
                place += track.length;
            }
            places[h] = place >= track.length ? 0.0 : place;
            steps[h]++;
            return 0;
        }

        int play(int h, int n) {
            if (!in(h, 4) || !in(n, 65) || !set[h]) {
                return -1;
            }
            ending = 0;
            int done = 0;
            while (done < n && ending == 0) {
                ending = step(h);
                done += ending == 0 ? 1 : 0;
            }
            return done;
        }

        int mix(int i, int how) {
            if (!in(i, 8) || !in(how, 4)) {
                return -1;
            }
            int cut = (int) ((double) mix[i] * 32767.0);
            return tell(how == 0 ? Float.floatToRawIntBits(mix[i])
                : how == 1 ? cut : how == 2 ? (short) cut : (long) mix[i]);
        }

        int hush() {
            Arrays.fill(mix, 0.0f);
            return 1;
        }

        int at(int h, int what) {
            if (!in(h, 4) || !in(what, 2) || !set[h]) {
                return -1;
            }
            return tell(what == 0 ? Double.doubleToRawLongBits(places[h]) : steps[h]);
        }

        int clock(long n, int how) {
            if (!in(how, 6)) {
                return -1;
            }
            clock += n;
            long[] ways = {clock, Float.floatToRawIntBits((float) clock), Double.doubleToRawLongBits((double) clock),
                (long) (float) clock, (long) (double) clock, (int) (float) clock};
            return tell(ways[how]);
        }
    }

    /** The arguments of one call; each call takes as many of them as it needs. */
    private static final class Call {
        final int method;
        final boolean curve;
        final int a;
        final int b;
        final int c;
        final int d;
        final long bits;

        Call(Random random) {
            method = method(random);
            curve = random.nextBoolean();
            a = number(random, method == 9 || method == 10 || method == 11 ? 3 : method >= 12 && method <= 17 ? 4 : 6);
            b = method == 1 ? number(random, 17) : method == 13 ? number(random, 65) : number(random, 4);
            c = number(random, 4);
            d = method == 12 ? number(random, 4) - 1 : number(random, 6);
            bits = bits(random, !(method == 8 || method == 4 && !curve), method == 12);
        }

        static int method(Random random) {
            int[] often = {1, 4, 4, 5, 6, 7, 8, 10, 10, 11, 12, 13, 13, 13, 15, 17, 18};
            return random.nextInt(4) != 0 ? often[random.nextInt(often.length)] : random.nextInt(19);
        }

        static int number(Random random, int bound) {
            int odd = random.nextInt(60);
            return odd == 0 ? -1 : odd == 1 ? bound : odd == 2 ? random.nextInt() : random.nextInt(bound);
        }

        static long bits(Random random, boolean wide, boolean rate) {
            double[] edges = {0.0, -0.0, 1.0, -1.0, 2.0, 0.5, 64.0, -64.0, 1e6, -1e6, 1e-320, -1e-45, -1e-300,
                Float.MAX_VALUE, -Float.MAX_VALUE, 3e38, 1e300, Double.MAX_VALUE, Double.NaN, 1e-10, -1e-10};
            double number = random.nextGaussian() * Math.pow(10, random.nextInt(rate ? 2 : 7));
            switch (random.nextInt(8)) {
                case 0:
                    return random.nextLong();
                case 1:
                case 2:
                    number = edges[random.nextInt(edges.length)];
                    break;
                case 3:
                    number = random.nextInt(130) * 0.25 - 16;
                    break;
                default:
                    break;
            }
            return wide ? Double.doubleToRawLongBits(number) : Float.floatToRawIntBits((float) number);
        }

        long askMixer(LoopMixer x) {
            switch (method) {
                case 0: return x.told();
                case 1: return x.row(curve, a, b);
                case 2: return x.share(curve, a, d);
                case 3: return x.drop(curve, a);
                case 4: return x.set(curve, a, b, bits);
                case 5: return x.get(curve, a, b);
                case 6: return x.wrap(curve, a, b, c);
                case 7: return x.effect(a, b, bits);
                case 8: return x.make(a, bits);
                case 9: return x.rack(a, b);
                case 10: return x.hang(a, b, d);
                case 11: return x.take(a, b, c, d);
                case 12: return x.head(a, b, c - 1, d, bits);
                case 13: return x.play(a, b);
                case 14: return x.failed();
                case 15: return x.mix(d, b);
                case 16: return (bits & 3) == 0 ? x.hush() : x.mix(d, 0);
                case 17: return x.at(a, c - 1);
                default: return x.clock(bits, d);
            }
        }

        long askModel(Model x) {
            switch (method) {
                case 0: return x.told;
                case 1: return x.row(curve, a, b);
                case 2: return x.share(curve, a, d);
                case 3: return x.drop(curve, a);
                case 4: return x.set(curve, a, b, bits);
                case 5: return x.get(curve, a, b);
                case 6: return x.wrap(curve, a, b, c);
                case 7: return x.effect(a, b, bits);
                case 8: return x.make(a, bits);
                case 9: return x.rack(a, b);
                case 10: return x.hang(a, b, d);
                case 11: return x.take(a, b, c, d);
                case 12: return x.head(a, b, c - 1, d, bits);
                case 13: return x.play(a, b);
                case 14: return x.ending;
                case 15: return x.mix(d, b);
                case 16: return (bits & 3) == 0 ? x.hush() : x.mix(d, 0);
                case 17: return x.at(a, c - 1);
                default: return x.clock(bits, d);
            }
        }

        String text() {
            return "method " + method + " (" + curve + ", " + a + ", " + b + ", " + c + ", " + d + ", " + bits + ")";
        }
    }

    /** Rows, full racks and heads, so that most plays find what they need. */
    private static int fitOut(LoopMixer mixer, Model model, Random random) {
        int wrong = 0;
        for (int k = 0; k < 6; k++) {
            int n = random.nextInt(17);
            wrong += mixer.row(false, k, n) == model.row(false, k, n) ? 0 : 1;
            wrong += mixer.row(true, k, 16 - n) == model.row(true, k, 16 - n) ? 0 : 1;
            for (int i = 0; i < 16; i++) {
                boolean curve = random.nextBoolean();
                long bits = Call.bits(random, curve, false);
                wrong += mixer.set(curve, k, i, bits) == model.set(curve, k, i, bits) ? 0 : 1;
            }
            long amount = Call.bits(random, true, false);
            wrong += mixer.effect(k, k % 3, amount) == model.effect(k, k % 3, amount) ? 0 : 1;
        }
        for (int r = 0; r < 3; r++) {
            wrong += mixer.rack(r, r) == model.rack(r, r) ? 0 : 1;
            for (int i = 0; i < 3; i++) {
                int k = r + 3 * random.nextInt(2);
                wrong += mixer.hang(r, i, k) == model.hang(r, i, k) ? 0 : 1;
            }
        }
        for (int h = 0; h < 4; h++) {
            long rate = Call.bits(random, true, true);
            wrong += mixer.head(h, h, h, h - 1, rate) == model.head(h, h, h, h - 1, rate) ? 0 : 1;
        }
        return wrong;
    }

    private static int wrongIn(int run, int[][] seen) {
        Random random = new Random(run);
        LoopMixer mixer = new LoopMixer();
        Model model = new Model();
        boolean fitted = run % 4 != 0;
        if (fitted && fitOut(mixer, model, random) != 0) {
            System.out.println("run " + run + ": the first calls are not as due");
            return 1;
        }
        // Asking for what was told and for the failure after each call makes three of each.
        int calls = fitted ? (CALLS - 150) / 3 : CALLS / 3;
        for (int n = 0; n < calls; n++) {
            Call call = new Call(random);
            long got = call.askMixer(mixer);
            long want = call.askModel(model);
            seen[call.method][want < 0 && want >= -15 ? (int) -want : 0]++;
            if (got != want || mixer.told() != model.told || mixer.failed() != model.ending) {
                System.out.println("run " + run + ", call " + n + ": " + call.text() + " answered " + got + " ("
                    + mixer.told() + "), due is " + want + " (" + model.told + ")");
                return 1;
            }
        }
        return 0;
    }

    public static void main(String[] args) {
        int wrong = 0;
        int[][] seen = new int[19][16];
        for (int run = 0; run < RUNS && wrong < 10; run++) {
            wrong += wrongIn(run, seen);
        }
        if (args.length > 0) {
            for (int[] answers : seen) {
                System.out.println(Arrays.toString(answers));
            }
        }
        System.out.println(wrong == 0 ? "all runs are as the model's" : wrong + " runs are not as the model's");
        if (wrong != 0) {
            System.exit(1);
        }
    }
}
