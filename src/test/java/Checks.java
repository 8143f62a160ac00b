/** Counts the answers that are not as due, and tells each of them. */
final class Checks {
    private int wrong = 0;
    private int asked = 0;
    private String topic = "";

    void topic(String name) {
        topic = name;
    }

    void due(String call, int want, int got) {
        asked++;
        if (got != want) {
            tell(call, Integer.toString(want), Integer.toString(got));
        }
    }

    void due(String call, boolean want, boolean got) {
        asked++;
        if (got != want) {
            tell(call, Boolean.toString(want), Boolean.toString(got));
        }
    }

    private void tell(String call, String want, String got) {
        wrong++;
        if (wrong <= 50) {
            System.out.println(topic + ": " + call + " answered " + got + ", due is " + want);
        }
    }

    void end() {
        System.out.println(asked + " answers looked at, " + wrong + " not as due");
        if (wrong != 0 || asked == 0) {
            System.exit(1);
        }
    }
}
