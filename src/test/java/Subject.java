/** An object under test that counts its calls, as behind the 512th the document promises nothing. */
final class Subject {
    static final int MOST_CALLS = 512;

    /** One call of the public face, with its numbers. */
    interface Call {
        long on(TurnThird x);
    }

    private final TurnThird x = new TurnThird();
    private int calls = 0;

    long ask(Call call) {
        calls++;
        if (calls > MOST_CALLS) {
            throw new IllegalStateException("the test itself asks too much of one object");
        }
        return call.on(x);
    }

    int calls() {
        return calls;
    }
}
