import java.util.function.ToIntFunction;

/** One call with its arguments; a boolean answer counts 1 or 0. */
record Call(String text, ToIntFunction<Words> made) {
    static Call make(int vector, int length) {
        return new Call("make(" + vector + ", " + length + ")", x -> x.make(vector, length));
    }

    static Call put(int vector, int index, int n, int bits) {
        return new Call("put(" + vector + ", " + index + ", " + n + ", " + bits + ")",
            x -> x.put(vector, index, n, bits));
    }

    static Call change(int to, int kind, int from, int k) {
        return new Call("change(" + to + ", " + kind + ", " + from + ", " + k + ")", x -> x.change(to, kind, from, k));
    }

    static Call combine(int to, int kind, int a, int b) {
        return new Call("combine(" + to + ", " + kind + ", " + a + ", " + b + ")", x -> x.combine(to, kind, a, b));
    }

    static Call length(int vector) {
        return new Call("length(" + vector + ")", x -> x.length(vector));
    }

    static Call get(int vector, int index) {
        return new Call("get(" + vector + ", " + index + ")", x -> x.get(vector, index) ? 1 : 0);
    }

    static Call count(int vector, int from, int to) {
        return new Call("count(" + vector + ", " + from + ", " + to + ")", x -> x.count(vector, from, to));
    }

    static Call place(int vector, int n) {
        return new Call("place(" + vector + ", " + n + ")", x -> x.place(vector, n));
    }

    static Call findRun(int vector, int from, int run) {
        return new Call("findRun(" + vector + ", " + from + ", " + run + ")", x -> x.findRun(vector, from, run));
    }

    static Call compare(int a, int b) {
        return new Call("compare(" + a + ", " + b + ")", x -> x.compare(a, b));
    }

    int on(Words x) {
        return made.applyAsInt(x);
    }

    @Override
    public String toString() {
        return text;
    }
}
