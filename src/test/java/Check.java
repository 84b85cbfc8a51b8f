import java.util.Objects;

/** Counts and prints the answers that are not as due, and gives the exit code in the end. */
final class Check {
    static final String IAE = "IllegalArgumentException";
    static final String ISE = "IllegalStateException";
    static final String IOOBE = "IndexOutOfBoundsException";
    static final String UOE = "UnsupportedOperationException";
    static final String ARITHMETIC = "ArithmeticException";

    /** A call that a test makes; what it answers is compared, or what it throws. */
    interface Call {
        int answer();
    }

    private int checks;
    private int wrong;
    private String sentence = "";

    /** The words of the document that the checks from here on are about. */
    void sentence(String words) {
        sentence = "\"" + words + "\": ";
        due("stands in the document", Document.says(words), true);
    }

    void due(String what, Object got, Object want) {
        checks++;
        if (!Objects.equals(got, want)) {
            wrong++;
            System.out.println(sentence + what + ": got " + got + ", due is " + want);
        }
    }

    void dueThrows(String what, String want, Call call) {
        due(what, outcomeOf(call), want);
    }

    /** What the call answers or throws, by the very class: the JVM's own throws are often below it. */
    static String outcomeOf(Call call) {
        try {
            return Integer.toString(call.answer());
        } catch (RuntimeException e) {
            boolean thrownByTheJvm = "/ by zero".equals(e.getMessage());
            return (thrownByTheJvm ? "the JVM's own " : "") + e.getClass().getSimpleName();
        }
    }

    void end() {
        System.out.println(checks + " checks, " + wrong + " wrong");
        if (wrong != 0) {
            System.exit(1);
        }
    }
}
