/**
 * Pieces from melts through cuts, welds, rolling and slits: what each weighs, where each of its
 * places came from, and which pieces have a defect.
 *
 * <p>A piece is a number into rows that are made once. What a piece is made of always has a lower
 * number than the piece itself: a walk back ends after at most as many steps as there are pieces,
 * and a walk forward by numbers meets what a piece is made of before the piece.
 */
public final class PieceTrace {
    private static final int MOST_PIECES = 40;
    private static final int MOST_DEFECTS = 10;
    private static final int MOST_ROLLS = 3;
    private static final int MOST_RATIO = 20;
    private static final int LEAST_SLITS = 2;
    private static final int MOST_SLITS = 4;
    private static final int MOST_OF_MELT = 1_000_000;
    private static final int MOST_OF_PIECE = 1_000_000_000;

    private static final int NONE = -1;

    private static final int LIVE = 0;
    private static final int USED = 1;
    private static final int SCRAPPED = 2;
    /** Live too; told as live and held. */
    private static final int HELD = 3;

    private static final int MELTED = 0;
    private static final int FIRST_PART = 1;
    private static final int SECOND_PART = 2;
    private static final int WELDED = 3;
    private static final int ROLLED = 4;
    private static final int SLITTED = 5;

    private final int[] kinds;
    private final int[] weights;
    private final int[] lengths;
    private final int[] states;
    private final int[] sources;
    private final int[] seconds;
    private final int[] rollCounts;
    /** Where two parts meet: a cut's place, or the length of a weld's first one. */
    private final int[] seams;
    private final int[] ratioUppers;
    private final int[] ratioLowers;
    private int pieceCount;

    private final int[] defectMelts;
    private final long[] defectUppers;
    private final long[] defectLowers;
    private int defectCount;

    private int heap;
    private long melted;

    private final Place spot;
    /** Where each piece has the defect that was followed last; a lower number of 0: nowhere. */
    private final long[] foundUppers;
    private final long[] foundLowers;

    public PieceTrace() {
        kinds = new int[MOST_PIECES];
        weights = new int[MOST_PIECES];
        lengths = new int[MOST_PIECES];
        states = new int[MOST_PIECES];
        sources = new int[MOST_PIECES];
        seconds = new int[MOST_PIECES];
        rollCounts = new int[MOST_PIECES];
        seams = new int[MOST_PIECES];
        ratioUppers = new int[MOST_PIECES];
        ratioLowers = new int[MOST_PIECES];
        defectMelts = new int[MOST_DEFECTS];
        defectUppers = new long[MOST_DEFECTS];
        defectLowers = new long[MOST_DEFECTS];
        spot = new Place();
        foundUppers = new long[MOST_PIECES];
        foundLowers = new long[MOST_PIECES];
    }

    public int melt(int weight, int length) throws IllegalArgumentException, UnsupportedOperationException {
        needWithin(weight, 1, MOST_OF_MELT);
        needWithin(length, 1, MOST_OF_MELT);
        needRoom(1);
        melted += weight;
        return addPiece(MELTED, NONE, weight, length);
    }

    public int cut(int piece, int place) throws IndexOutOfBoundsException, IllegalStateException, IllegalArgumentException, UnsupportedOperationException {
        needPiece(piece);
        needFree(piece);
        int length = lengths[piece];
        needWithin(place, 1, length - 1);
        needRoom(2);
        int weight = weights[piece];
        int firstWeight = (int) ((long) weight * place / length);
        states[piece] = USED;
        int first = addPiece(FIRST_PART, piece, firstWeight, place);
        int second = addPiece(SECOND_PART, piece, weight - firstWeight, length - place);
        seams[first] = place;
        seams[second] = place;
        return first;
    }

    public int weld(int first, int second) throws IndexOutOfBoundsException, IllegalStateException, UnsupportedOperationException {
        needPiece(first);
        needPiece(second);
        if (first == second) {
            throw new IndexOutOfBoundsException("a piece can't be welded to itself");
        }
        needFree(first);
        needFree(second);
        needRoom(1);
        long weight = (long) weights[first] + weights[second];
        long length = (long) lengths[first] + lengths[second];
        if (weight > MOST_OF_PIECE || length > MOST_OF_PIECE) {
            throw new UnsupportedOperationException("the weld would be too long or heavy");
        }
        states[first] = USED;
        states[second] = USED;
        int welded = addPiece(WELDED, first, (int) weight, (int) length);
        seconds[welded] = second;
        seams[welded] = lengths[first];
        rollCounts[welded] = Math.max(rollCounts[first], rollCounts[second]);
        return welded;
    }

    public int roll(int piece, int a, int b) throws IndexOutOfBoundsException, IllegalStateException, IllegalArgumentException, UnsupportedOperationException {
        needPiece(piece);
        needFree(piece);
        needWithin(a, 1, MOST_RATIO);
        needWithin(b, 1, MOST_RATIO);
        needRoom(1);
        if (rollCounts[piece] >= MOST_ROLLS) {
            throw new UnsupportedOperationException("the piece has been rolled three times");
        }
        long length = (long) lengths[piece] * a / b;
        if (length < 1 || length > MOST_OF_PIECE) {
            throw new UnsupportedOperationException("the rolled piece would be too short or long");
        }
        states[piece] = USED;
        int rolled = addPiece(ROLLED, piece, weights[piece], (int) length);
        ratioUppers[rolled] = a;
        ratioLowers[rolled] = b;
        rollCounts[rolled] = rollCounts[piece] + 1;
        return rolled;
    }

    public int slit(int piece, int n) throws IndexOutOfBoundsException, IllegalStateException, IllegalArgumentException, UnsupportedOperationException {
        needPiece(piece);
        needFree(piece);
        needWithin(n, LEAST_SLITS, MOST_SLITS);
        needRoom(n);
        int share = weights[piece] / n;
        int firstShare = weights[piece] - share * (n - 1);
        states[piece] = USED;
        int first = addPiece(SLITTED, piece, firstShare, lengths[piece]);
        for (int i = 1; i < n; i++) {
            addPiece(SLITTED, piece, share, lengths[piece]);
        }
        return first;
    }

    public void hold(int piece, boolean on) throws IndexOutOfBoundsException, IllegalStateException {
        needPiece(piece);
        if (states[piece] != (on ? LIVE : HELD)) {
            throw new IllegalStateException("the piece is not live, or it is so");
        }
        states[piece] = on ? HELD : LIVE;
    }

    public int scrap(int piece) throws IndexOutOfBoundsException, IllegalStateException {
        needPiece(piece);
        needFree(piece);
        states[piece] = SCRAPPED;
        heap += weights[piece];
        return heap;
    }

    public int back(int percent, int length) throws IllegalArgumentException, UnsupportedOperationException {
        needWithin(percent, 1, 100);
        needWithin(length, 1, MOST_OF_MELT);
        needRoom(1);
        int share = (int) ((long) heap * percent / 100);
        if (share < 1) {
            throw new UnsupportedOperationException("the share of the heap is less than a gram");
        }
        heap -= share;
        return addPiece(MELTED, NONE, share, length);
    }

    public int at(int piece, int what) throws IndexOutOfBoundsException {
        needPiece(piece);
        switch (what) {
            case 0:
                return weights[piece];
            case 1:
                return lengths[piece];
            case 2:
                return isLive(piece) ? LIVE : states[piece];
            case 3:
                return states[piece] == HELD ? 1 : 0;
            case 4:
                return sources[piece];
            case 5:
                return seconds[piece];
            case 6:
                return rollCounts[piece];
            default:
                throw new IndexOutOfBoundsException("no such what");
        }
    }

    public long origin(int piece, int place, int part) throws IndexOutOfBoundsException, IllegalArgumentException {
        needPiece(piece);
        needPart(part, 2);
        needWithin(place, 0, lengths[piece] - 1);
        int melt = walkBack(piece, place);
        if (part == 0) {
            return melt;
        }
        return part == 1 ? spot.upper : spot.lower;
    }

    public int defect(int piece, int place) throws IndexOutOfBoundsException, IllegalArgumentException, UnsupportedOperationException {
        needPiece(piece);
        needWithin(place, 0, lengths[piece] - 1);
        if (defectCount >= MOST_DEFECTS) {
            throw new UnsupportedOperationException("there is no room for a defect");
        }
        int defect = defectCount;
        defectMelts[defect] = walkBack(piece, place);
        defectUppers[defect] = spot.upper;
        defectLowers[defect] = spot.lower;
        defectCount++;
        return defect;
    }

    public long has(int defect, int piece, int part) throws IndexOutOfBoundsException {
        needDefect(defect);
        needPiece(piece);
        needPart(part, 1);
        follow(defect);
        if (foundLowers[piece] == 0) {
            return NONE;
        }
        return part == 0 ? foundUppers[piece] : foundLowers[piece];
    }

    public int recall(int defect, int k) throws IndexOutOfBoundsException {
        needDefect(defect);
        if (k < 0) {
            throw new IndexOutOfBoundsException("k is below 0");
        }
        follow(defect);
        int seen = 0;
        for (int piece = 0; piece < pieceCount; piece++) {
            if (isLive(piece) && foundLowers[piece] != 0) {
                if (seen == k) {
                    return piece;
                }
                seen++;
            }
        }
        return NONE;
    }

    public long told(int what) throws IndexOutOfBoundsException {
        switch (what) {
            case 0:
                return liveWeight();
            case 1:
                return heap;
            case 2:
                return melted;
            default:
                throw new IndexOutOfBoundsException("no such what");
        }
    }

    private boolean isPiece(int piece) {
        return piece >= 0 && piece < pieceCount;
    }

    private boolean isLive(int piece) {
        return states[piece] == LIVE || states[piece] == HELD;
    }

    private void needPiece(int piece) {
        if (!isPiece(piece)) {
            throw new IndexOutOfBoundsException("no such piece");
        }
    }

    private void needDefect(int defect) {
        if (defect < 0 || defect >= defectCount) {
            throw new IndexOutOfBoundsException("no such defect");
        }
    }

    private static void needPart(int part, int last) {
        if (part < 0 || part > last) {
            throw new IndexOutOfBoundsException("no such part");
        }
    }

    private void needFree(int piece) {
        if (states[piece] != LIVE) {
            throw new IllegalStateException("the piece is not live, or held");
        }
    }

    private static void needWithin(int number, int least, int most) {
        if (number < least || number > most) {
            throw new IllegalArgumentException("a number out of its range");
        }
    }

    private void needRoom(int more) {
        if (pieceCount + more > MOST_PIECES) {
            throw new UnsupportedOperationException("there is no room for a piece");
        }
    }

    /** Callers ask needRoom first, so that the new number is within the rows. */
    private int addPiece(int kind, int source, int weight, int length) {
        int piece = pieceCount;
        kinds[piece] = kind;
        weights[piece] = weight;
        lengths[piece] = length;
        states[piece] = LIVE;
        sources[piece] = source;
        seconds[piece] = NONE;
        rollCounts[piece] = source == NONE ? 0 : rollCounts[source];
        pieceCount++;
        return piece;
    }

    private long liveWeight() {
        long sum = 0;
        for (int piece = 0; piece < pieceCount; piece++) {
            if (isLive(piece)) {
                sum += weights[piece];
            }
        }
        return sum;
    }

    /** Answers the melt that a place came from, and leaves the place there in spot. */
    private int walkBack(int piece, int place) {
        spot.set(place, 1);
        int here = piece;
        for (int steps = 0; steps < MOST_PIECES; steps++) {
            int source = stepBack(here);
            if (!isPiece(source)) {
                return here;
            }
            here = source;
        }
        return here;
    }

    /** Answers the piece that the place in spot is of, one step ahead; none ahead of a melt. */
    private int stepBack(int piece) {
        switch (kinds[piece]) {
            case SECOND_PART:
                spot.move(seams[piece]);
                return sources[piece];
            case WELDED:
                if (spot.isBelow(seams[piece])) {
                    return sources[piece];
                }
                spot.move(-seams[piece]);
                return seconds[piece];
            case ROLLED:
                spot.stretch(ratioLowers[piece], ratioUppers[piece]);
                return sources[piece];
            default:
                return sources[piece];
        }
    }

    /** One pass over all pieces by numbers: a walk back from each would meet welds of slits again and again. */
    private void follow(int defect) {
        for (int piece = 0; piece < pieceCount; piece++) {
            boolean found = stepForward(defect, piece);
            foundUppers[piece] = found ? spot.upper : 0;
            foundLowers[piece] = found ? spot.lower : 0;
        }
    }

    /** Whether a piece has a defect; if so, its place there is left in spot. */
    private boolean stepForward(int defect, int piece) {
        boolean found = takeFound(sources[piece]);
        switch (kinds[piece]) {
            case MELTED:
                spot.set(defectUppers[defect], defectLowers[defect]);
                return defectMelts[defect] == piece;
            case FIRST_PART:
                return found && spot.isBelow(seams[piece]);
            case SECOND_PART:
                if (!found || spot.isBelow(seams[piece])) {
                    return false;
                }
                spot.move(-seams[piece]);
                return true;
            case WELDED:
                if (found || !takeFound(seconds[piece])) {
                    return found;
                }
                spot.move(seams[piece]);
                return true;
            case ROLLED:
                if (!found) {
                    return false;
                }
                spot.stretch(ratioUppers[piece], ratioLowers[piece]);
                return spot.isBelow(lengths[piece]);
            default:
                return found;
        }
    }

    private boolean takeFound(int piece) {
        if (!isPiece(piece)) {
            return false;
        }
        spot.set(foundUppers[piece], foundLowers[piece]);
        return foundLowers[piece] != 0;
    }

    /**
     * A fraction in lowest terms. A defect's place has at most three rolls behind it and three
     * ahead of it: its lower number is at most 20 to the 6th, and with lengths up to
     * 1,000,000,000 no product here comes near the end of a long.
     */
    private static final class Place {
        /** Euclid needs fewer steps than this for any two longs. */
        private static final int MOST_STEPS = 100;

        private long upper;
        private long lower;

        private void set(long newUpper, long newLower) {
            upper = newUpper;
            lower = newLower;
        }

        private void move(long by) {
            upper += by * lower;
        }

        private void stretch(long over, long under) {
            upper *= over;
            lower *= under;
            long shared = commonDivisor(upper, lower);
            if (shared > 1) {
                upper /= shared;
                lower /= shared;
            }
        }

        private boolean isBelow(long whole) {
            return upper < whole * lower;
        }

        private static long commonDivisor(long one, long other) {
            long larger = one;
            long smaller = other;
            for (int steps = 0; steps < MOST_STEPS && smaller != 0; steps++) {
                long rest = larger % smaller;
                larger = smaller;
                smaller = rest;
            }
            return larger;
        }
    }
}
