import java.util.function.ToDoubleFunction;
import java.util.function.ToLongFunction;

/**
 * One call on a new desk whose registers all differ, and what all of them must have behind it. A
 * desk for each call: so each is seen alone, and none comes near to 512 calls.
 */
final class Trial {
    private final Due due;
    private final RealDesk desk = new RealDesk();
    private final double[] want = new double[Desks.REGISTERS];
    private final String with;

    /** The first registers have the numbers given, the others what Desks fills them with. */
    Trial(Due due, double... numbers) {
        this.due = due;
        StringBuilder told = new StringBuilder(" with");
        for (int r = 0; r < Desks.REGISTERS; r++) {
            want[r] = r < numbers.length ? numbers[r] : Desks.filling(r);
            Desks.put(desk, r, want[r]);
        }
        for (double number : numbers) {
            told.append(' ').append(Desks.told(number));
        }
        with = numbers.length == 0 ? "" : told.toString();
    }

    /** The call answers 0, and this register alone becomes another number. */
    void becomes(int to, double number, String call, ToLongFunction<RealDesk> made) {
        want[to] = number;
        answers(0, call, made);
    }

    /** The call gives the answer and leaves all as it was. */
    void answers(long answer, String call, ToLongFunction<RealDesk> made) {
        due.answer(call + with, () -> made.applyAsLong(desk), answer);
        Desks.unchanged(due, call + with, desk, want);
    }

    void tellsNumber(double number, String call, ToDoubleFunction<RealDesk> made) {
        due.number(call + with, () -> made.applyAsDouble(desk), number);
        Desks.unchanged(due, call + with, desk, want);
    }

    void throwsArgument(String call, ToLongFunction<RealDesk> made) {
        due.refused(call + with, () -> made.applyAsLong(desk));
        Desks.unchanged(due, call + with, desk, want);
    }

    void throwsState(String call, ToLongFunction<RealDesk> made) {
        due.throwsState(call + with, () -> made.applyAsLong(desk));
        Desks.unchanged(due, call + with, desk, want);
    }
}
