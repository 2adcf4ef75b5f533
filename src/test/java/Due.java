/** Counts and prints answers that are not the ones that are due. */
final class Due {
    private static int wrong = 0;
    private static String sentence = "";

    private Due() {
    }

    /** The sentence of the document that the next answers are about: told ahead of each one that is wrong. */
    static void about(String words) {
        sentence = "[" + words + "] ";
    }

    static void due(String call, double got, double want) {
        if (got != want) {
            wrong++;
            System.out.println(sentence + call + " answered " + got + ", due is " + want);
        }
    }

    static void due(String call, long got, long want) {
        if (got != want) {
            wrong++;
            System.out.println(sentence + call + " answered " + got + ", due is " + want);
        }
    }

    static void due(String call, String got, String want) {
        if (!got.equals(want)) {
            wrong++;
            System.out.println(sentence + call + " answered\n" + got + "\ndue is\n" + want);
        }
    }

    static boolean hasWrong() {
        return wrong != 0;
    }

    /** The octets of the drawing as a text. */
    static String text(DrawLabels d) {
        StringBuilder all = new StringBuilder();
        int octet = d.octet(0);
        for (int k = 1; octet != DrawLabels.NONE; k++) {
            all.append((char) octet);
            octet = d.octet(k);
        }
        return all.toString();
    }

    static void end() {
        System.out.println(wrong == 0 ? "all answers are as due" : wrong + " answers are not as due");
        if (wrong != 0) {
            System.exit(1);
        }
    }
}
