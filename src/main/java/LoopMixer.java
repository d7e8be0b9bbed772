/** Loops that heads play over and over, through curves and racks of effects, into one mix. */
public final class LoopMixer {
    public static final int BAD = -1;

    private static final int DONE = 1;
    private static final int NONE = 0;

    private static final int MISSING = 1;
    private static final int OUTSIDE = 2;
    private static final int CAST = 3;
    private static final int STORE = 4;
    private static final int BY_ZERO = 5;

    private static final int GAIN = 0;
    private static final int FOLD = 1;
    private static final int CRUSH = 2;
    private static final int KINDS = 3;

    private static final int ROWS = 6;
    private static final int MOST_ITEMS = 16;
    private static final int EFFECTS = 6;
    private static final int RACKS = 3;
    private static final int PLACES = 3;
    private static final int HEADS = 4;
    private static final int MOST_STEPS = 64;
    private static final int MIX_ITEMS = 8;
    private static final int CLOCK_WAYS = 6;
    private static final int GREATEST_AMOUNT = 1000000;
    private static final int GREATEST_RATE = 64;

    private final Row[] tracks;
    private final Row[] curves;
    private final Effect[] effects;
    private final Rack[] racks;
    private final Head[] heads;
    private final float[] sums;
    private int ending;
    private long time;
    private long latest;

    public LoopMixer() {
        tracks = new Row[ROWS];
        curves = new Row[ROWS];
        effects = new Effect[EFFECTS];
        racks = new Rack[RACKS];
        heads = new Head[HEADS];
        sums = new float[MIX_ITEMS];
    }

    public int row(boolean curve, int k, int n) {
        if (!isBelow(k, ROWS) || n < 0 || n > MOST_ITEMS) {
            return BAD;
        }
        if (curve) {
            curves[k] = new DoubleRow(n);
        } else {
            tracks[k] = new FloatRow(n);
        }
        return DONE;
    }

    public int share(boolean curve, int from, int to) {
        if (!isBelow(from, ROWS) || !isBelow(to, ROWS)) {
            return BAD;
        }
        Row[] rows = rowsOf(curve);
        rows[to] = rows[from];
        return rows[to] == null ? NONE : DONE;
    }

    public int drop(boolean curve, int k) {
        if (!isBelow(k, ROWS)) {
            return BAD;
        }
        Row[] rows = rowsOf(curve);
        int had = rows[k] == null ? NONE : DONE;
        rows[k] = null;
        return had;
    }

    public int set(boolean curve, int k, int i, long bits) {
        if (!isBelow(k, ROWS) || !Numbers.isNumber(curve, bits)) {
            return BAD;
        }
        Row row = rowsOf(curve)[k];
        int failure = itemFailure(row, i);
        if (failure != 0) {
            return toldFailure(failure);
        }
        row.put(i, Numbers.fromBits(curve, bits));
        return DONE;
    }

    public int get(boolean curve, int k, int i) {
        if (!isBelow(k, ROWS)) {
            return BAD;
        }
        Row row = rowsOf(curve)[k];
        int failure = itemFailure(row, i);
        if (failure != 0) {
            return toldFailure(failure);
        }
        return tell(Numbers.toBits(curve, row.item(i)));
    }

    public int wrap(boolean curve, int k, int i, int j) {
        if (!isBelow(k, ROWS)) {
            return BAD;
        }
        Row row = rowsOf(curve)[k];
        int failure = itemFailure(row, i);
        if (failure == 0) {
            failure = itemFailure(row, j);
        }
        if (failure != 0) {
            return toldFailure(failure);
        }
        double divisor = row.item(j);
        if (divisor == 0.0) {
            return toldFailure(BY_ZERO);
        }
        // The rest of two floats is a float, so the doubles' rest is right for both widths.
        row.put(i, Numbers.rest(row.item(i), divisor));
        return DONE;
    }

    public int effect(int k, int kind, long amount) {
        if (!isBelow(k, EFFECTS) || !isBelow(kind, KINDS) || !isNumberUpTo(amount, GREATEST_AMOUNT)) {
            return BAD;
        }
        effects[k] = newEffect(kind, Numbers.fromBits(true, amount));
        return DONE;
    }

    public int make(int k, long bits) {
        if (!isBelow(k, EFFECTS) || !Numbers.isNumber(false, bits)) {
            return BAD;
        }
        Effect effect = effects[k];
        if (effect == null) {
            return toldFailure(MISSING);
        }
        float sample = (float) Numbers.fromBits(false, bits);
        return tell(Numbers.toBits(false, effect.heldFrom(sample)));
    }

    public int rack(int r, int kind) {
        if (!isBelow(r, RACKS) || !isBelow(kind, KINDS)) {
            return BAD;
        }
        racks[r] = new Rack(kind);
        return DONE;
    }

    public int hang(int r, int i, int k) {
        if (!isBelow(r, RACKS) || !isBelow(k, EFFECTS)) {
            return BAD;
        }
        Rack rack = racks[r];
        int failure = placeFailure(rack, i);
        if (failure != 0) {
            return toldFailure(failure);
        }
        if (!isOf(effects[k], rack.kind)) {
            return toldFailure(STORE);
        }
        rack.places[i] = effects[k];
        return DONE;
    }

    public int take(int r, int i, int kind, int k) {
        if (!isBelow(r, RACKS) || !isBelow(kind, KINDS) || !isBelow(k, EFFECTS)) {
            return BAD;
        }
        Rack rack = racks[r];
        int failure = placeFailure(rack, i);
        if (failure != 0) {
            return toldFailure(failure);
        }
        Effect taken = rack.places[i];
        if (!isOf(taken, kind)) {
            return toldFailure(CAST);
        }
        effects[k] = taken;
        return taken == null ? NONE : DONE;
    }

    public int head(int h, int track, int curve, int rack, long rate) {
        if (!isBelow(h, HEADS) || !isBelow(track, ROWS) || !isNumberUpTo(rate, GREATEST_RATE)) {
            return BAD;
        }
        if (curve != -1 && !isBelow(curve, ROWS) || rack != -1 && !isBelow(rack, RACKS)) {
            return BAD;
        }
        heads[h] = new Head(track, curve, rack, Numbers.fromBits(true, rate));
        return DONE;
    }

    public int play(int h, int n) {
        if (!isBelow(h, HEADS) || n < 0 || n > MOST_STEPS) {
            return BAD;
        }
        Head head = heads[h];
        if (head == null) {
            return BAD;
        }
        ending = 0;
        for (int done = 0; done < n; done++) {
            ending = step(head);
            if (ending != 0) {
                return done;
            }
        }
        return n;
    }

    public int failed() {
        return ending == 0 ? 0 : toldFailure(ending);
    }

    public int mix(int i, int how) {
        if (!isBelow(i, MIX_ITEMS)) {
            return BAD;
        }
        float item = sums[i];
        int loudness = (int) (item * 32767.0);
        switch (how) {
            case 0:
                return tell(Numbers.toBits(false, item));
            case 1:
                return tell(loudness);
            case 2:
                return tell((short) loudness);
            case 3:
                return tell((long) item);
            default:
                return BAD;
        }
    }

    public int hush() {
        for (int i = 0; i < sums.length; i++) {
            sums[i] = 0.0f;
        }
        return DONE;
    }

    public int at(int h, int what) {
        if (!isBelow(h, HEADS)) {
            return BAD;
        }
        Head head = heads[h];
        if (head == null) {
            return BAD;
        }
        switch (what) {
            case 0:
                return tell(Numbers.toBits(true, head.place));
            case 1:
                return tell(head.steps);
            default:
                return BAD;
        }
    }

    public int clock(long n, int how) {
        if (!isBelow(how, CLOCK_WAYS)) {
            return BAD;
        }
        time = time + n;
        // Each cast starts from the long itself: by way of a double, a float would be rounded twice.
        switch (how) {
            case 0:
                return tell(time);
            case 1:
                return tell(Numbers.toBits(false, (float) time));
            case 2:
                return tell(Numbers.toBits(true, (double) time));
            case 3:
                return tell((long) (float) time);
            case 4:
                return tell((long) (double) time);
            default:
                return tell((int) (float) time);
        }
    }

    public long told() {
        return latest;
    }

    private int tell(long what) {
        latest = what;
        return DONE;
    }

    private static int toldFailure(int failure) {
        return -10 - failure;
    }

    private static boolean isBelow(int number, int bound) {
        return number >= 0 && number < bound;
    }

    private static boolean isNumberUpTo(long bits, int greatest) {
        if (!Numbers.isNumber(true, bits)) {
            return false;
        }
        double number = Numbers.fromBits(true, bits);
        return number >= -greatest && number <= greatest;
    }

    private Row[] rowsOf(boolean curve) {
        return curve ? curves : tracks;
    }

    private static int itemFailure(Row row, int i) {
        if (row == null) {
            return MISSING;
        }
        return isBelow(i, row.size()) ? 0 : OUTSIDE;
    }

    private static int placeFailure(Rack rack, int i) {
        if (rack == null) {
            return MISSING;
        }
        return isBelow(i, PLACES) ? 0 : OUTSIDE;
    }

    /** None is of every kind. */
    private static boolean isOf(Effect effect, int kind) {
        return effect == null || effect.hasKind(kind);
    }

    private static Effect newEffect(int kind, double amount) {
        switch (kind) {
            case GAIN:
                return new Gain(amount);
            case FOLD:
                return new Fold(amount);
            default:
                return new Crush(amount);
        }
    }

    /** Does one step of a head, or nothing if it fails: answers the failure, 0 for none. */
    private int step(Head head) {
        Row track = tracks[head.track];
        Row curve = head.curve < 0 ? null : curves[head.curve];
        Rack rack = head.rack < 0 ? null : racks[head.rack];
        int failure = stepFailure(head, track, curve, rack);
        if (failure != 0) {
            return failure;
        }
        float sample = (float) track.item((int) head.place);
        if (curve != null) {
            sample = Numbers.held(sample * curve.item((int) (head.steps % curve.size())));
        }
        if (rack != null) {
            sample = rack.heldFrom(sample);
        }
        int i = (int) (head.steps % MIX_ITEMS);
        sums[i] = Numbers.held((double) sums[i] + (double) sample);
        head.moveOn(track.size());
        return 0;
    }

    /** No failure depends on a sample's value, so all are looked for before anything is done. */
    private static int stepFailure(Head head, Row track, Row curve, Rack rack) {
        int failure = itemFailure(track, (int) head.place);
        if (failure == 0 && head.curve >= 0) {
            // Steps wrap by how many items there are: some item is there if the first one is.
            failure = itemFailure(curve, 0);
        }
        if (failure == 0 && head.rack >= 0 && (rack == null || rack.hasBarePlace())) {
            failure = MISSING;
        }
        return failure;
    }

    /** A row of numbers, which several tracks or several curves may have; indexes are tested by who asks. */
    private abstract static class Row {
        abstract int size();

        abstract double item(int i);

        abstract void put(int i, double number);
    }

    private static final class FloatRow extends Row {
        private final float[] items;

        FloatRow(int n) {
            items = new float[n];
        }

        int size() {
            return items.length;
        }

        double item(int i) {
            return items[i];
        }

        void put(int i, double number) {
            items[i] = (float) number;
        }
    }

    private static final class DoubleRow extends Row {
        private final double[] items;

        DoubleRow(int n) {
            items = new double[n];
        }

        int size() {
            return items.length;
        }

        double item(int i) {
            return items[i];
        }

        void put(int i, double number) {
            items[i] = number;
        }
    }

    /** Effects never change, so the numbered ones and the places of racks may have the same one. */
    private abstract static class Effect {
        final double amount;

        Effect(double amount) {
            this.amount = amount;
        }

        final float heldFrom(float sample) {
            return Numbers.held(madeFrom(sample));
        }

        abstract boolean hasKind(int kind);

        abstract double madeFrom(double sample);
    }

    private static class Gain extends Effect {
        Gain(double amount) {
            super(amount);
        }

        boolean hasKind(int kind) {
            return kind == GAIN;
        }

        double madeFrom(double sample) {
            return sample * amount;
        }
    }

    private static final class Fold extends Gain {
        Fold(double amount) {
            super(amount);
        }

        boolean hasKind(int kind) {
            return kind == FOLD || super.hasKind(kind);
        }

        double madeFrom(double sample) {
            double rest = Numbers.rest(super.madeFrom(sample), 2.0);
            if (rest > 1.0) {
                return 2.0 - rest;
            }
            return rest < -1.0 ? -2.0 - rest : rest;
        }
    }

    private static final class Crush extends Effect {
        Crush(double amount) {
            super(amount);
        }

        boolean hasKind(int kind) {
            return kind == CRUSH;
        }

        double madeFrom(double sample) {
            double levels = (double) Math.max(1, (int) amount);
            return (double) (long) (sample * levels) / levels;
        }
    }

    private static final class Rack {
        private final int kind;
        private final Effect[] places;

        Rack(int kind) {
            this.kind = kind;
            places = new Effect[PLACES];
        }

        boolean hasBarePlace() {
            for (int i = 0; i < places.length; i++) {
                if (places[i] == null) {
                    return true;
                }
            }
            return false;
        }

        float heldFrom(float sample) {
            float made = sample;
            for (int i = 0; i < places.length; i++) {
                Effect effect = places[i];
                if (effect != null) {
                    made = effect.heldFrom(made);
                }
            }
            return made;
        }
    }

    private static final class Head {
        private final int track;
        private final int curve;
        private final int rack;
        private final double rate;
        private double place;
        private long steps;

        Head(int track, int curve, int rack, double rate) {
            this.track = track;
            this.curve = curve;
            this.rack = rack;
            this.rate = rate;
        }

        void moveOn(int items) {
            double next = Numbers.rest(place + rate, items);
            if (next < 0.0) {
                next = next + items;
                // A rest only just below 0.0 is rounded up to the end, where there is no item.
                if (next >= items) {
                    next = 0.0;
                }
            }
            place = next;
            steps = steps + 1;
        }
    }

    /**
     * Numbers by their bits, and their rests. LANGUAGE.md leaves only + - * / and casts on floats and
     * doubles, so both are worked out here. A float is handed over as the double that equals it;
     * 'wide' tells whether the bits are a double's.
     */
    private static final class Numbers {
        private static final int WIDE_FRACTION = 52;
        private static final int NARROW_FRACTION = 23;
        private static final int WIDE_SIGN = 63;
        private static final int NARROW_SIGN = 31;
        private static final int WIDE_ENDLESS = 2047;
        private static final int NARROW_ENDLESS = 255;
        /** The exponent field at which the lowest bit of the fraction counts 1. */
        private static final int WIDE_ONES = 1075;
        private static final int NARROW_ONES = 150;
        /** Powers of two are gone through in strides of 32, 16, 8, 4, 2 and 1. */
        private static final int WIDEST_STRIDE = 32;
        /** From the smallest double to the greatest there are 2098 powers of two. */
        private static final int MOST_HALVINGS = 2100;

        private Numbers() {
        }

        static boolean isNumber(boolean wide, long bits) {
            return exponentField(wide, bits) != (wide ? WIDE_ENDLESS : NARROW_ENDLESS);
        }

        private static int exponentField(boolean wide, long bits) {
            return wide
                ? (int) (bits >>> WIDE_FRACTION) & WIDE_ENDLESS
                : (int) (bits >>> NARROW_FRACTION) & NARROW_ENDLESS;
        }

        /** The bits must be a number's. */
        static double fromBits(boolean wide, long bits) {
            long hidden = 1L << (wide ? WIDE_FRACTION : NARROW_FRACTION);
            long fraction = bits & (hidden - 1);
            int field = exponentField(wide, bits);
            // The lowest field has the exponent of the next one, but no hidden bit.
            long whole = field == 0 ? fraction : fraction | hidden;
            int exponent = Math.max(1, field) - (wide ? WIDE_ONES : NARROW_ONES);
            double size = timesPowerOfTwo((double) whole, exponent);
            boolean negative = wide ? bits < 0 : (int) bits < 0;
            return negative ? -size : size;
        }

        /** Exact, as what comes out is a double: on the way to it no bit is lost. */
        private static double timesPowerOfTwo(double number, int exponent) {
            double scaled = number;
            int left = exponent;
            for (int stride = WIDEST_STRIDE; stride > 0; stride = stride / 2) {
                double power = (double) (1L << stride);
                for (; left >= stride; left -= stride) {
                    scaled = scaled * power;
                }
                for (; left <= -stride; left += stride) {
                    scaled = scaled / power;
                }
            }
            return scaled;
        }

        /** A float's bits are those of an int, with its sign. */
        static long toBits(boolean wide, double number) {
            int fraction = wide ? WIDE_FRACTION : NARROW_FRACTION;
            int endless = wide ? WIDE_ENDLESS : NARROW_ENDLESS;
            double hidden = (double) (1L << fraction);
            double whole = sizeOf(number);
            int field = wide ? WIDE_ONES : NARROW_ONES;
            for (int stride = WIDEST_STRIDE; stride > 0; stride = stride / 2) {
                double power = (double) (1L << stride);
                for (; field > stride && whole < hidden * 2.0 / power; field -= stride) {
                    whole = whole * power;
                }
                for (; field + stride < endless && whole >= hidden * power; field += stride) {
                    whole = whole / power;
                }
            }
            // Where there is a hidden bit, adding it makes the field 1 more.
            long bits = ((long) (field - 1) << fraction) + (long) whole;
            if (!isNegative(number)) {
                return bits;
            }
            return bits | -1L << (wide ? WIDE_SIGN : NARROW_SIGN);
        }

        /** Of the two zeros, only a division tells which it is: by it, 1.0 becomes endless with its sign. */
        private static boolean isNegative(double number) {
            return number == 0.0 ? 1.0 / number < 0.0 : number < 0.0;
        }

        private static double sizeOf(double number) {
            return number < 0.0 ? -number : number;
        }

        static float held(double number) {
            float greatest = 3.4028235e38f;
            if (number > greatest) {
                return greatest;
            }
            return number < -greatest ? -greatest : (float) number;
        }

        /** The exact rest, with the number's sign (a zero's, too); the divisor must not be 0. */
        static double rest(double number, double divisor) {
            double least = sizeOf(divisor);
            double left = sizeOf(number);
            double part = greatestPart(least, left);
            // What is left is below twice the part, so that no subtraction rounds.
            for (int k = 0; k < MOST_HALVINGS && left >= least; k++) {
                if (left >= part) {
                    left = left - part;
                }
                part = part / 2.0;
            }
            return number < 0.0 ? -left : left;
        }

        /** The least times the greatest power of two that is not above the whole (the least itself, if none is). */
        private static double greatestPart(double least, double whole) {
            double part = least;
            for (int stride = WIDEST_STRIDE; stride > 0; stride = stride / 2) {
                double power = (double) (1L << stride);
                for (int k = 0; k < MOST_HALVINGS && part * power <= whole; k++) {
                    part = part * power;
                }
            }
            return part;
        }
    }
}
