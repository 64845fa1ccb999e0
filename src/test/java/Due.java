/** Counts and prints the answers that are not as due. */
final class Due {
    private final String name;
    private int looked = 0;
    private int wrong = 0;

    Due(String name) {
        this.name = name;
    }

    void same(String call, long got, long want) {
        looked++;
        if (got != want) {
            wrong++;
            System.out.println(name + ": " + call + " answered " + got + ", due is " + want);
        }
    }

    void same(String call, double got, double want) {
        looked++;
        if (got != want) {
            wrong++;
            System.out.println(name + ": " + call + " answered " + got + ", due is " + want);
        }
    }

    boolean isWrong() {
        return wrong > 0;
    }

    /** Ends the program with 1 if an answer was not as due. */
    void end() {
        System.out.println(name + ": " + looked + " answers, " + wrong + " not as due");
        if (wrong > 0 || looked == 0) {
            System.exit(1);
        }
    }
}
