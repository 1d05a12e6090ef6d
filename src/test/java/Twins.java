import java.util.function.Function;
import java.util.function.Supplier;
import java.util.function.ToIntFunction;

/**
 * Courts that are made alike: a call is made on one of two, and all that can be asked of both tells
 * whether it changed anything. Each question has twins of its own, since many change their court.
 */
final class Twins {
    private static final int[] FAR = {Integer.MIN_VALUE, Integer.MIN_VALUE + 1, Integer.MAX_VALUE - 1,
        Integer.MAX_VALUE};
    /** What comes out just as a number within, if it is shifted by, or cast to a smaller type. */
    private static final int[] ROUND = {32, 256, 65536, -32, -256, -65536};

    private final Check check;
    private final Supplier<CommaCourt> maker;

    Twins(Check check, Supplier<CommaCourt> maker) {
        this.check = check;
        this.maker = maker;
    }

    /** A call with one number that must be refused when it is not from the least to the most. */
    interface CallWithNumber {
        int of(CommaCourt court, int number);
    }

    void dueWithin(String name, int least, int most, CallWithNumber call) {
        for (int number : new int[] {least, most}) {
            int got = call.of(maker.get(), number);
            check.dueTrue(name + " " + number + " is within (" + got + ")", got != Check.INVALID);
        }
        dueRefused(name + " " + (least - 1), Check.INVALID, court -> call.of(court, least - 1));
        dueRefused(name + " " + (most + 1), Check.INVALID, court -> call.of(court, most + 1));
        for (int number : FAR) {
            dueRefused(name + " " + number, Check.INVALID, court -> call.of(court, number));
        }
        for (int off : ROUND) {
            if (least + off < least || least + off > most) {
                dueRefused(name + " " + (least + off), Check.INVALID, court -> call.of(court, least + off));
            }
        }
    }

    /** A call that returns an error changes nothing. */
    void dueRefused(String name, int error, ToIntFunction<CommaCourt> call) {
        check.due(name, call.applyAsInt(maker.get()), error);
        dueNothingChanged(name, call);
    }

    void dueNothingChanged(String name, ToIntFunction<CommaCourt> call) {
        dueAlike(name + ", then looks", call, Twins::looks);
        dueAlike(name + ", then undo()", call, Twins::undone);
        dueAlike(name + ", then restore()", call, court -> court.restore() + looks(court));
        dueAlike(name + ", then print()", call, court -> court.print() + looks(court));
        dueAlike(name + ", then plead()", call, court -> court.plead() + looks(court));
        dueAlike(name + ", then weight()", call, Twins::weights);
        dueAlike(name + ", then the pad", call, Twins::padOf);
    }

    private void dueAlike(String name, ToIntFunction<CommaCourt> call, Function<CommaCourt, String> question) {
        CommaCourt called = maker.get();
        call.applyAsInt(called);
        String got = question.apply(called);
        String want = question.apply(maker.get());
        check.dueTrue(name + ": told is " + got + ", due is " + want, got.equals(want));
    }

    /** All that a court tells by looks. */
    static String looks(CommaCourt court) {
        StringBuilder told = new StringBuilder(" pad " + court.fault(0) + " " + court.fault(1) + " why");
        for (int what = 0; what < 3; what++) {
            told.append(' ').append(court.why(what));
        }
        return told + " counts" + counts(court) + editions(court) + rulings(court);
    }

    private static String counts(CommaCourt court) {
        StringBuilder told = new StringBuilder();
        for (int what = 0; what < 15; what++) {
            told.append(' ').append(court.count(what));
        }
        return told.toString();
    }

    private static String editions(CommaCourt court) {
        StringBuilder told = new StringBuilder();
        for (int edition = 0; edition < court.count(1); edition++) {
            told.append(" edition ").append(Check.textOf(court, edition));
            for (int what = 3; what < 10; what++) {
                told.append(' ').append(court.edition(edition, what));
            }
        }
        return told.toString();
    }

    private static String rulings(CommaCourt court) {
        StringBuilder told = new StringBuilder();
        for (int ruling = 0; ruling < court.count(4); ruling++) {
            told.append(" ruling");
            for (int what = 0; what < 9; what++) {
                told.append(' ').append(court.ruling(ruling, what));
            }
        }
        return told.toString();
    }

    private static String undone(CommaCourt court) {
        StringBuilder told = new StringBuilder();
        for (int time = 0; time < 5; time++) {
            told.append(court.undo()).append(counts(court)).append(editions(court));
        }
        return told.toString();
    }

    private static String weights(CommaCourt court) {
        StringBuilder told = new StringBuilder();
        for (int kind = 0; kind < 6; kind++) {
            told.append(' ').append(court.weight(kind, 1));
        }
        return told.toString();
    }

    /** The pad's signs, found by what makes each beginning of it an edition or suits, or not. */
    private static String padOf(CommaCourt court) {
        String faults = court.fault(0) + " " + court.fault(1);
        int length = court.count(13);
        return faults + " " + length + " " + court.append('a') + " " + court.fault(0) + " " + court.clear();
    }
}
