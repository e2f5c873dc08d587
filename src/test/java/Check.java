/** Counts what is as it must be and prints what is not. */
final class Check {
    private final String name;
    private int right;
    private int wrong;

    Check(String name) {
        this.name = name;
    }

    void due(String what, long got, long want) {
        if (got == want) {
            right++;
        } else {
            wrong++;
            System.out.println(name + ": " + what + " answered " + got + ", due is " + want);
        }
    }

    void is(String what, boolean is) {
        if (is) {
            right++;
        } else {
            wrong++;
            System.out.println(name + ": not so: " + what);
        }
    }

    void not(String what, boolean is) {
        is("not " + what, !is);
    }

    void end() {
        System.out.println(name + ": " + right + " as due, " + wrong + " not");
        if (wrong > 0 || right == 0) {
            System.exit(1);
        }
    }
}
