/** The calls of the document, which can be made on the program and on the model of it. */
interface Words {
    int make(int vector, int length);

    int put(int vector, int index, int n, int bits);

    int change(int to, int kind, int from, int k);

    int combine(int to, int kind, int a, int b);

    int length(int vector);

    boolean get(int vector, int index);

    int count(int vector, int from, int to);

    int place(int vector, int n);

    int findRun(int vector, int from, int run);

    int compare(int a, int b);
}
