/** What the project's tests share: it prints each answer that is not as due and counts them. */
final class Check {
    private static int wrong = 0;
    private static String sentence = "";

    private Check() {
    }

    /** Names the sentence of the document that the calls after it are about. */
    static void sentence(String words) {
        sentence = "[" + words + "] ";
    }

    static void due(String call, long got, long want) {
        if (got != want) {
            wrong++;
            System.out.println(sentence + call + " answered " + got + ", due is " + want);
        }
    }

    static void due(String call, boolean got, boolean want) {
        due(call, got ? 1 : 0, want ? 1 : 0);
    }

    /** Compares at(t) for all events with a row of 0 and 1, one for each event. */
    static void dueTruth(String name, PastMonitor x, String truth) {
        for (int t = 0; t < truth.length(); t++) {
            due(name + ": at(" + t + ")", x.at(t), truth.charAt(t) == '1');
        }
        due(name + ": events()", x.events(), truth.length());
    }

    /** Runs all cases; one that throws is a wrong answer too, and does not hide the next. */
    static void all(Runnable... cases) {
        for (Runnable one : cases) {
            try {
                one.run();
            } catch (RuntimeException thrown) {
                wrong++;
                System.out.println(sentence + "threw " + thrown);
            }
        }
        end();
    }

    static void end() {
        System.out.println(wrong == 0 ? "all answers are as due" : wrong + " answers are not as due");
        if (wrong != 0) {
            System.exit(1);
        }
    }
}
