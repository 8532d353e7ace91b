import java.math.BigInteger;
import java.util.ArrayList;
import java.util.List;

/**
 * The document once more, written apart from the class: objects that point at one another, places
 * as fractions of BigIntegers that are never reduced, and answers as texts.
 */
final class Model {
    static final String INDEX = "throws.IndexOutOfBoundsException";
    static final String TURN = "throws.IllegalStateException";
    static final String RANGE = "throws.IllegalArgumentException";
    static final String MEANING = "throws.UnsupportedOperationException";

    private enum Kind { MELT, FIRST, SECOND, WELD, ROLL, SLIT }

    /** A melt and a fraction of it, or a fraction of a piece. */
    private record Spot(Piece piece, BigInteger upper, BigInteger lower) {
        boolean below(long whole) {
            return upper.compareTo(lower.multiply(BigInteger.valueOf(whole))) < 0;
        }

        Spot moved(Piece to, long by) {
            return new Spot(to, upper.add(lower.multiply(BigInteger.valueOf(by))), lower);
        }

        Spot scaled(Piece to, long over, long under) {
            return new Spot(to, upper.multiply(BigInteger.valueOf(over)), lower.multiply(BigInteger.valueOf(under)));
        }

        String part(int part) {
            BigInteger number = part == 0 ? upper : lower;
            return number.divide(upper.gcd(lower)).toString();
        }
    }

    private static final class Piece {
        Kind kind;
        int number;
        long weight;
        long length;
        String state = "live";
        boolean held;
        Piece of;
        Piece second;
        long a;
        long b;

        int rolls() {
            if (kind == Kind.MELT) {
                return 0;
            }
            int most = second == null ? of.rolls() : Math.max(of.rolls(), second.rolls());
            return kind == Kind.ROLL ? most + 1 : most;
        }

        boolean free() {
            return state.equals("live") && !held;
        }
    }

    private final List<Piece> pieces = new ArrayList<>();
    private final List<Spot> defects = new ArrayList<>();
    private long heap;
    private long melts;

    int pieceCount() {
        return pieces.size();
    }

    int defectCount() {
        return defects.size();
    }

    /** 1 for no such piece: a length to take places from. */
    long lengthOf(int piece) {
        return isPiece(piece) ? pieces.get(piece).length : 1;
    }

    private boolean isPiece(int piece) {
        return 0 <= piece && piece < pieces.size();
    }

    private static boolean within(long number, long least, long most) {
        return least <= number && number <= most;
    }

    private Piece add(Kind kind, Piece of, long weight, long length) {
        Piece made = new Piece();
        made.kind = kind;
        made.number = pieces.size();
        made.of = of;
        made.weight = weight;
        made.length = length;
        if (of != null) {
            of.state = "used";
        }
        pieces.add(made);
        return made;
    }

    private static String text(long number) {
        return Long.toString(number);
    }

    String melt(int weight, int length) {
        if (!within(weight, 1, 1000000) || !within(length, 1, 1000000)) return RANGE;
        if (pieces.size() == 40) return MEANING;
        melts += weight;
        return text(add(Kind.MELT, null, weight, length).number);
    }

    String cut(int piece, int place) {
        if (!isPiece(piece)) return INDEX;
        Piece whole = pieces.get(piece);
        if (!whole.free()) return TURN;
        if (place < 1 || place >= whole.length) return RANGE;
        if (pieces.size() > 38) return MEANING;
        Piece first = add(Kind.FIRST, whole, whole.weight * place / whole.length, place);
        add(Kind.SECOND, whole, whole.weight - first.weight, whole.length - place);
        return text(first.number);
    }

    String weld(int first, int second) {
        if (!isPiece(first) || !isPiece(second) || first == second) return INDEX;
        Piece one = pieces.get(first);
        Piece two = pieces.get(second);
        if (!one.free() || !two.free()) return TURN;
        if (pieces.size() == 40) return MEANING;
        if (one.length + two.length > 1000000000 || one.weight + two.weight > 1000000000) return MEANING;
        Piece made = add(Kind.WELD, one, one.weight + two.weight, one.length + two.length);
        made.second = two;
        two.state = "used";
        return text(made.number);
    }

    String roll(int piece, int a, int b) {
        if (!isPiece(piece)) return INDEX;
        Piece ahead = pieces.get(piece);
        if (!ahead.free()) return TURN;
        if (!within(a, 1, 20) || !within(b, 1, 20)) return RANGE;
        if (pieces.size() == 40 || ahead.rolls() == 3) return MEANING;
        if (!within(ahead.length * a / b, 1, 1000000000)) return MEANING;
        Piece made = add(Kind.ROLL, ahead, ahead.weight, ahead.length * a / b);
        made.a = a;
        made.b = b;
        return text(made.number);
    }

    String slit(int piece, int n) {
        if (!isPiece(piece)) return INDEX;
        Piece whole = pieces.get(piece);
        if (!whole.free()) return TURN;
        if (!within(n, 2, 4)) return RANGE;
        if (pieces.size() + n > 40) return MEANING;
        int first = pieces.size();
        for (int i = 0; i < n; i++) {
            add(Kind.SLIT, whole, whole.weight / n + (i == 0 ? whole.weight % n : 0), whole.length);
        }
        return text(first);
    }

    String hold(int piece, boolean on) {
        if (!isPiece(piece)) return INDEX;
        Piece it = pieces.get(piece);
        if (!it.state.equals("live") || it.held == on) return TURN;
        it.held = on;
        return "0";
    }

    String scrap(int piece) {
        if (!isPiece(piece)) return INDEX;
        Piece it = pieces.get(piece);
        if (!it.free()) return TURN;
        it.state = "scrap";
        heap += it.weight;
        return text(heap);
    }

    String back(int percent, int length) {
        if (!within(percent, 1, 100) || !within(length, 1, 1000000)) return RANGE;
        long share = heap * percent / 100;
        if (share == 0 || pieces.size() == 40) return MEANING;
        heap -= share;
        return text(add(Kind.MELT, null, share, length).number);
    }

    String at(int piece, int what) {
        if (!isPiece(piece) || !within(what, 0, 6)) return INDEX;
        Piece it = pieces.get(piece);
        return switch (what) {
            case 0 -> text(it.weight);
            case 1 -> text(it.length);
            case 2 -> text(List.of("live", "used", "scrap").indexOf(it.state));
            case 3 -> it.held ? "1" : "0";
            case 4 -> it.of == null ? "-1" : text(it.of.number);
            case 5 -> it.second == null ? "-1" : text(it.second.number);
            default -> text(it.rolls());
        };
    }

    private Spot originOf(Spot spot) {
        Piece it = spot.piece;
        return switch (it.kind) {
            case MELT -> spot;
            case FIRST, SLIT -> originOf(spot.moved(it.of, 0));
            case SECOND -> originOf(spot.moved(it.of, it.of.length - it.length));
            case WELD -> originOf(spot.below(it.of.length) ? spot.moved(it.of, 0) : spot.moved(it.second, -it.of.length));
            case ROLL -> originOf(spot.scaled(it.of, it.b, it.a));
        };
    }

    private Spot spot(int piece, int place) {
        return new Spot(pieces.get(piece), BigInteger.valueOf(place), BigInteger.ONE);
    }

    String origin(int piece, int place, int part) {
        if (!isPiece(piece) || !within(part, 0, 2)) return INDEX;
        if (place < 0 || place >= pieces.get(piece).length) return RANGE;
        Spot origin = originOf(spot(piece, place));
        return part == 0 ? text(origin.piece.number) : origin.part(part - 1);
    }

    String defect(int piece, int place) {
        if (!isPiece(piece)) return INDEX;
        if (place < 0 || place >= pieces.get(piece).length) return RANGE;
        if (defects.size() == 10) return MEANING;
        defects.add(originOf(spot(piece, place)));
        return text(defects.size() - 1);
    }

    /** Where a piece has a defect, or null. */
    private Spot found(Spot defect, Piece it) {
        if (it.kind == Kind.MELT) {
            return it == defect.piece ? defect : null;
        }
        Spot ahead = found(defect, it.of);
        if (ahead == null) {
            Spot second = it.kind == Kind.WELD ? found(defect, it.second) : null;
            return second == null ? null : second.moved(it, it.of.length);
        }
        if (it.kind == Kind.FIRST) {
            return ahead.below(it.length) ? ahead.moved(it, 0) : null;
        }
        if (it.kind == Kind.SECOND) {
            long place = it.of.length - it.length;
            return ahead.below(place) ? null : ahead.moved(it, -place);
        }
        if (it.kind == Kind.ROLL) {
            Spot rolled = ahead.scaled(it, it.a, it.b);
            return rolled.below(it.length) ? rolled : null;
        }
        return ahead.moved(it, 0);
    }

    String has(int defect, int piece, int part) {
        if (!within(defect, 0, defects.size() - 1) || !isPiece(piece) || !within(part, 0, 1)) return INDEX;
        Spot spot = found(defects.get(defect), pieces.get(piece));
        return spot == null ? "-1" : spot.part(part);
    }

    String recall(int defect, int k) {
        if (!within(defect, 0, defects.size() - 1) || k < 0) return INDEX;
        List<Piece> live = new ArrayList<>();
        for (Piece it : pieces) {
            if (it.state.equals("live") && found(defects.get(defect), it) != null) {
                live.add(it);
            }
        }
        return k < live.size() ? text(live.get(k).number) : "-1";
    }

    String told(int what) {
        return switch (what) {
            case 0 -> text(pieces.stream().filter(it -> it.state.equals("live")).mapToLong(it -> it.weight).sum());
            case 1 -> text(heap);
            case 2 -> text(melts);
            default -> INDEX;
        };
    }
}
