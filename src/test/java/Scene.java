import java.util.function.Supplier;

/**
 * Six vectors on which one call is made. Each of them is looked at afterwards, on an object of its own, since one
 * object serves too few calls to look at six vectors of length 256.
 */
final class Scene {
    private static final int SHOWN = 40;

    private final String[] vectors = {"", "", "", "", "", ""};

    /** The vectors that are not given have length 0. */
    Scene(String... given) {
        System.arraycopy(given, 0, vectors, 0, given.length);
    }

    /** All six vectors are this one. */
    static Scene sixOf(String vector) {
        return new Scene(vector, vector, vector, vector, vector, vector);
    }

    /** The call gives this answer and changes no vector. */
    void answers(Call call, int answer) {
        leaves(call, answer, vectors);
    }

    /** The call gives this answer, this vector gets these elements, and no other vector is changed. */
    void becomes(Call call, int answer, int vector, String elements) {
        String[] after = vectors.clone();
        after[vector] = elements;
        leaves(call, answer, after);
    }

    /** The call answers what the model answers, and the vectors are the model's afterwards. */
    void likeModel(Call call) {
        Model model = new Model(vectors);
        int answer = call.on(model);
        leaves(call, answer, model.showAll());
    }

    private void leaves(Call call, int answer, String[] after) {
        leaves(call, answer, after, " on", () -> Subject.with(vectors));
        leaves(call, answer, after, " on a used object with", () -> Subject.usedWith(vectors));
    }

    private void leaves(Call call, int answer, String[] after, String where, Supplier<Subject> fresh) {
        String what = call + where + this;
        Check.due(what, call.on(fresh.get()), answer);
        for (int v = 0; v < vectors.length; v++) {
            Subject x = fresh.get();
            call.on(x);
            Check.due(what + ", vector " + v + " after it", x.show(v), after[v]);
        }
    }

    @Override
    public String toString() {
        StringBuilder shown = new StringBuilder();
        for (int v = 0; v < vectors.length; v++) {
            String x = vectors[v];
            shown.append(' ').append(v).append('=');
            shown.append(x.length() <= SHOWN ? x : x.substring(0, SHOWN) + "..(length " + x.length() + ")");
        }
        return shown.toString();
    }
}
