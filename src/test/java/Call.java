import java.util.ArrayList;
import java.util.List;
import java.util.function.ToIntFunction;

/** One call of the public face, with the text that tells of it. */
record Call(String text, ToIntFunction<ListDecoder> action) {
    int on(ListDecoder decoder) {
        return action.applyAsInt(decoder);
    }

    static Call length() {
        return new Call("length()", ListDecoder::length);
    }

    static Call dimension() {
        return new Call("dimension()", ListDecoder::dimension);
    }

    static Call put(int position, int symbol) {
        return new Call("put(" + position + ", " + symbol + ")", d -> d.put(position, symbol));
    }

    static Call disturb(int position, int delta) {
        return new Call("disturb(" + position + ", " + delta + ")", d -> d.disturb(position, delta));
    }

    static Call erase(int position) {
        return new Call("erase(" + position + ")", d -> d.erase(position));
    }

    static Call write(int c0, int c1, int c2, int mask) {
        return new Call("write(" + c0 + ", " + c1 + ", " + c2 + ", " + mask + ")", d -> d.write(c0, c1, c2, mask));
    }

    static Call symbolAt(int position) {
        return new Call("symbolAt(" + position + ")", d -> d.symbolAt(position));
    }

    static Call received() {
        return new Call("received()", ListDecoder::received);
    }

    static Call lowestThreshold() {
        return new Call("lowestThreshold()", ListDecoder::lowestThreshold);
    }

    static Call decode(int threshold) {
        return new Call("decode(" + threshold + ")", d -> d.decode(threshold));
    }

    static Call size() {
        return new Call("size()", ListDecoder::size);
    }

    static Call coefficient(int index, int degree) {
        return new Call("coefficient(" + index + ", " + degree + ")", d -> d.coefficient(index, degree));
    }

    static Call agreement(int index) {
        return new Call("agreement(" + index + ")", d -> d.agreement(index));
    }

    static Call find(int c0, int c1, int c2) {
        return new Call("find(" + c0 + ", " + c1 + ", " + c2 + ")", d -> d.find(c0, c1, c2));
    }

    static Call best() {
        return new Call("best()", ListDecoder::best);
    }

    static Call correct(int index) {
        return new Call("correct(" + index + ")", d -> d.correct(index));
    }

    /** Every getter, with arguments that are accepted somewhere and with wrong ones. */
    static List<Call> getters() {
        List<Call> calls = new ArrayList<>(List.of(
                length(), dimension(), received(), lowestThreshold(), size(), best()));
        for (int number : new int[] {Integer.MIN_VALUE, -1, 0, 1, 3, 5, 12, 13, Integer.MAX_VALUE}) {
            calls.add(symbolAt(number));
            calls.add(agreement(number));
            calls.add(coefficient(number, 0));
            calls.add(coefficient(0, number));
            calls.add(find(number, 0, 0));
            calls.add(find(2, number, 0));
            calls.add(find(2, 3, number));
        }
        return calls;
    }
}
