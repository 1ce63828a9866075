/** Counts the answers that are not the ones due, and names the sentence of the document that they belong to. */
final class Check {
    private String sentence = "";
    private int asked = 0;
    private int askedForSentence = 1;
    private int wrong = 0;

    /** What is asked from here on belongs to this sentence. */
    void about(String newSentence) {
        closeSentence();
        sentence = newSentence + ": ";
        askedForSentence = 0;
    }

    void due(String call, int got, int want) {
        asked++;
        askedForSentence++;
        if (got != want) {
            wrong++;
            System.out.println(sentence + call + " answered " + got + ", due is " + want);
        }
    }

    void dueMode(FluxModeEnumerator x, int i, int... values) {
        due("support(" + i + ")", x.support(i), Network.supportOf(values));
        for (int j = 0; j < values.length; j++) {
            due("flux(" + i + ", " + j + ")", x.flux(i, j), values[j]);
        }
    }

    void dueYield(FluxModeEnumerator x, int a, int b, int top, int bottom) {
        due("yieldTop(" + a + ", " + b + ")", x.yieldTop(a, b), top);
        due("yieldBottom(" + a + ", " + b + ")", x.yieldBottom(a, b), bottom);
    }

    void finish() {
        closeSentence();
        System.out.println(asked + " answers, " + wrong + " not as due");
        if (wrong != 0 || asked == 0) {
            System.exit(1);
        }
    }

    // A sentence for which nothing was asked would pass without a test.
    private void closeSentence() {
        if (askedForSentence == 0) {
            wrong++;
            System.out.println(sentence + "nothing was asked");
        }
    }
}
