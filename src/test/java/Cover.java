/** Whether each refusal, and each NONE, that a promise names was due at least once in a test of that promise. */
final class Cover {
    private static final String[] WORDS = {"UNKNOWN", "OUTSIDE", "NOT", "FULL", "NONE"};
    private static final int[] ANSWERS = {Due.UNKNOWN, Due.OUTSIDE, Due.NOT, Due.FULL, Due.NONE};

    private Cover() {
    }

    static void promises(int first, int last) {
        for (int promise = first; promise <= last; promise++) {
            String section = "Promise " + promise;
            // "k = NONE" and "s = NONE" are arguments, no answers
            String text = Document.textOf(section).replace("= NONE", "");
            for (int i = 0; i < WORDS.length; i++) {
                boolean isNamed = text.matches(".*\\b" + WORDS[i] + "\\b.*");
                boolean isTested = Due.wasAsked(section, ANSWERS[i]);
                Due.is(section + " names " + WORDS[i] + ": tested", isNamed && !isTested ? 0 : 1, 1);
            }
        }
    }
}
