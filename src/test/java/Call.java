import java.util.function.ToIntFunction;

/** One call with its arguments, that can be made on any object and told in a text. */
record Call(String text, ToIntFunction<StrictOffsets> answer) {
    int on(StrictOffsets object) {
        return answer.applyAsInt(object);
    }
}
