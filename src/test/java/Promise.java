/** The test of one promise: each answer stands under the words of the document that ask for it. */
final class Promise {
    private final int number;
    private final Check check = new Check();
    private String words = "";
    private boolean answered = true;
    private int sentences = 0;

    Promise(int number) {
        this.number = number;
    }

    /** What follows tests these words, up to the next ones. */
    void says(String newWords) {
        wordsAreTested();
        words = newWords;
        answered = false;
        sentences++;
    }

    void same(String what, long got, long due) {
        answered = true;
        check.same(told(what), got, due);
    }

    void same(String what, boolean got, boolean due) {
        answered = true;
        check.same(told(what), got, due);
    }

    void same(String what, String got, String due) {
        answered = true;
        check.same(told(what), got, due);
    }

    /** That the object is as one made ready with this number; uses it up. */
    void asReady(String what, DoubleTexts x, String number) {
        same(what, Look.all(x), Look.all(Look.ready(number)));
    }

    void end() {
        wordsAreTested();
        System.out.println("promise " + number + ", " + sentences + " sentences and cases of them");
        check.end();
    }

    private void wordsAreTested() {
        check.same(told("has a test"), answered, true);
    }

    private String told(String what) {
        return "promise " + number + ", \"" + words + "\": " + what;
    }
}
