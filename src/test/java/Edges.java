import java.util.function.IntUnaryOperator;

/**
 * What the tests of boundaries have in common. They go through the document in its order; each
 * sentence that names a boundary has a test of its own, and the name of its checks is the
 * sentence, or its beginning.
 */
abstract class Edges {
    private static final int[] FAR = {-1000, Integer.MIN_VALUE, 1000, Integer.MAX_VALUE};

    final Check check = new Check();
    String sentence;

    void is(Object due, Object got) {
        check.is(sentence, due, got);
    }

    void isThrown(Class<? extends RuntimeException> due, Check.Call call) {
        check.isThrown(sentence, due, call);
    }

    /** The call throws the exception for the argument below the least one, beyond the most one, and far away. */
    void isThrownOutside(int least, int most, Class<? extends RuntimeException> due, IntUnaryOperator call) {
        for (int argument : new int[] {least - 1, most + 1, FAR[0], FAR[1], FAR[2], FAR[3]}) {
            check.isThrown(sentence + ": " + argument, due, () -> call.applyAsInt(argument));
        }
    }

    /** The call answers a number for each argument from the least one to the most one. */
    void isAnsweredWithin(int least, int most, IntUnaryOperator call) {
        for (int argument = least; argument <= most; argument++) {
            int given = argument;
            Object answer = Check.answer(() -> call.applyAsInt(given));
            check.is(sentence + ": " + argument + " answered " + answer, true, answer instanceof Integer);
        }
    }

    /** The same property of the minutes from 0 on. */
    void row(NoisePost post, int property, int... due) {
        for (int minute = 0; minute < due.length; minute++) {
            check.is(sentence + " minute(" + minute + ", " + property + ")",
                due[minute], post.minute(minute, property));
        }
    }

    /** The exceedances of the complaints from 0 on. */
    void matches(NoisePost post, int... due) {
        for (int complaint = 0; complaint < due.length; complaint++) {
            check.is(sentence + " complaint(" + complaint + ", 1)", due[complaint], post.complaint(complaint, 1));
        }
    }
}
