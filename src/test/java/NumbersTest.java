import java.util.Random;

/** Bits and rests of floats and doubles, against those of the Java library and of the operator %. */
public final class NumbersTest {
    private static final boolean TRACK = false;
    private static final boolean CURVE = true;

    private static int wrong = 0;

    private static void due(String what, long got, long want) {
        if (got != want) {
            wrong++;
            System.out.println(what + " answered " + got + ", due is " + want);
        }
    }

    private static LoopMixer newMixer() {
        LoopMixer x = new LoopMixer();
        x.row(TRACK, 0, 2);
        x.row(CURVE, 0, 2);
        x.effect(0, 0, Double.doubleToRawLongBits(1.0));
        return x;
    }

    private static void floatComesBack(LoopMixer x, int bits) {
        boolean bad = !Float.isFinite(Float.intBitsToFloat(bits));
        due("float set " + bits, x.set(TRACK, 0, 0, bits), bad ? -1 : 1);
        if (!bad) {
            due("float get " + bits, x.get(TRACK, 0, 0), 1);
            due("float told " + bits, x.told(), bits);
            due("float make " + bits, x.make(0, bits & 0xffffffffL), 1);
            due("float made " + bits, x.told(), bits);
        }
    }

    private static void doubleComesBack(LoopMixer x, long bits) {
        boolean bad = !Double.isFinite(Double.longBitsToDouble(bits));
        due("double set " + bits, x.set(CURVE, 0, 0, bits), bad ? -1 : 1);
        if (!bad) {
            due("double get " + bits, x.get(CURVE, 0, 0), 1);
            due("double told " + bits, x.told(), bits);
        }
    }

    private static void everyExponent() {
        for (int exponent = 0; exponent < 256; exponent++) {
            LoopMixer x = newMixer();
            for (int fraction : new int[] {0, 1, 0x2aaaaa, 0x400000, 0x7fffff}) {
                floatComesBack(x, exponent << 23 | fraction);
                floatComesBack(x, Integer.MIN_VALUE | exponent << 23 | fraction);
            }
        }
        for (long exponent = 0; exponent < 2048; exponent++) {
            LoopMixer x = newMixer();
            for (long fraction : new long[] {0, 1, 0xaaaaaaaaaaaaaL, 0x8000000000000L, 0xfffffffffffffL}) {
                doubleComesBack(x, exponent << 52 | fraction);
                doubleComesBack(x, Long.MIN_VALUE | exponent << 52 | fraction);
            }
        }
    }

    private static void bitsAtRandom(Random random) {
        for (int round = 0; round < 20000; round++) {
            LoopMixer x = newMixer();
            floatComesBack(x, random.nextInt());
            floatComesBack(x, random.nextInt() & 0x80ffffff);
            doubleComesBack(x, random.nextLong());
            doubleComesBack(x, random.nextLong() & 0x801fffffffffffffL);
        }
    }

    private static void floatRest(float number, float divisor) {
        if (!Float.isFinite(number) || !Float.isFinite(divisor)) {
            return;
        }
        LoopMixer x = newMixer();
        x.set(TRACK, 0, 0, Float.floatToRawIntBits(number));
        x.set(TRACK, 0, 1, Float.floatToRawIntBits(divisor));
        int want = Float.floatToRawIntBits(divisor == 0 ? number : number % divisor);
        due(number + " % " + divisor, x.wrap(TRACK, 0, 0, 1), divisor == 0 ? -15 : 1);
        x.get(TRACK, 0, 0);
        due(number + " % " + divisor + ", the rest", x.told(), want);
    }

    private static void doubleRest(double number, double divisor) {
        if (!Double.isFinite(number) || !Double.isFinite(divisor)) {
            return;
        }
        LoopMixer x = newMixer();
        x.set(CURVE, 0, 0, Double.doubleToRawLongBits(number));
        x.set(CURVE, 0, 1, Double.doubleToRawLongBits(divisor));
        long want = Double.doubleToRawLongBits(divisor == 0 ? number : number % divisor);
        due(number + " % " + divisor, x.wrap(CURVE, 0, 0, 1), divisor == 0 ? -15 : 1);
        x.get(CURVE, 0, 0);
        due(number + " % " + divisor + ", the rest", x.told(), want);
    }

    private static void restsOfEdges() {
        float[] floats = {0.0f, Float.MIN_VALUE, 3 * Float.MIN_VALUE, 5 * Float.MIN_VALUE, Float.MIN_NORMAL,
            Math.nextDown(Float.MIN_NORMAL), 0.1f, 1.0f, Math.nextUp(1.0f), 1.5f, 2.0f, 3.0f, 16777217.0f, 1e30f,
            Math.nextDown(Float.MAX_VALUE), Float.MAX_VALUE};
        double[] doubles = {0.0, Double.MIN_VALUE, 3 * Double.MIN_VALUE, 5 * Double.MIN_VALUE, 7 * Double.MIN_VALUE,
            Double.MIN_NORMAL, Math.nextDown(Double.MIN_NORMAL), 1e-300, 0.1, 1.0, Math.nextDown(1.0), 1.5, 2.0, 3.0,
            9007199254740993.0, 1e300, 0x1p1023, Math.nextDown(Double.MAX_VALUE), Double.MAX_VALUE};
        for (float number : floats) {
            for (float divisor : floats) {
                floatRest(number, divisor);
                floatRest(-number, divisor);
                floatRest(number, -divisor);
                floatRest(-number, -divisor);
            }
        }
        for (double number : doubles) {
            for (double divisor : doubles) {
                doubleRest(number, divisor);
                doubleRest(-number, divisor);
                doubleRest(number, -divisor);
                doubleRest(-number, -divisor);
            }
        }
    }

    private static void restsAtRandom(Random random) {
        for (int round = 0; round < 20000; round++) {
            floatRest(Float.intBitsToFloat(random.nextInt()), Float.intBitsToFloat(random.nextInt()));
            doubleRest(Double.longBitsToDouble(random.nextLong()), Double.longBitsToDouble(random.nextLong()));
            double divisor = random.nextDouble();
            doubleRest(random.nextInt(1000) * divisor, divisor);
            doubleRest(random.nextGaussian() * 100, random.nextInt(16) + 1);
            long tiny = random.nextInt(1000);
            doubleRest(Double.longBitsToDouble(random.nextLong() & 0x1fffffffffffffL), Double.longBitsToDouble(tiny));
        }
    }

    public static void main(String[] args) {
        Random random = new Random(20261116);
        everyExponent();
        bitsAtRandom(random);
        restsOfEdges();
        restsAtRandom(random);
        System.out.println(wrong == 0 ? "all numbers are as due" : wrong + " numbers are not as due");
        if (wrong != 0) {
            System.exit(1);
        }
    }
}
