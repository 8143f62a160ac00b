/** Counts the answers that are not as due, and tells each of them. */
final class Checks {
    private int wrong = 0;
    private int asked = 0;
    private int sentences = 0;
    private String topic = "";

    void topic(String name) {
        topic = name;
    }

    /** A sentence of the document and the test of its own, which must look at an answer. */
    void sentence(String words, Runnable test) {
        topic(words);
        sentences++;
        int before = asked;
        test.run();
        due("some answer was looked at", true, asked > before);
    }

    void due(String call, int want, int got) {
        due(call, Integer.toString(want), Integer.toString(got));
    }

    void due(String call, boolean want, boolean got) {
        due(call, Boolean.toString(want), Boolean.toString(got));
    }

    void due(String call, String want, String got) {
        asked++;
        if (got.equals(want)) {
            return;
        }
        wrong++;
        if (wrong <= 50) {
            System.out.println(topic + ": " + call + " answered " + got + ", due is " + want);
        }
    }

    void end() {
        String of = sentences == 0 ? "" : sentences + " sentences, ";
        System.out.println(of + asked + " answers looked at, " + wrong + " not as due");
        if (wrong != 0 || asked == 0) {
            System.exit(1);
        }
    }
}
