/** Counts answers that are not as due, and prints them. */
final class Check {
    /** A call whose answer does not matter, as it is due to throw. */
    interface Call {
        void run();
    }

    private int count;
    private int wrong;

    void same(String what, long got, long due) {
        count++;
        if (got != due) {
            complain(what + " answered " + got + ", due is " + due);
        }
    }

    void same(String what, boolean got, boolean due) {
        count++;
        if (got != due) {
            complain(what + " answered " + got + ", due is " + due);
        }
    }

    void sameDouble(String what, double got, double due) {
        count++;
        if (Double.compare(got, due) != 0) {
            complain(what + " answered " + got + ", due is " + due);
        }
    }

    /** The exception must be of this very class: the machine's own ones are of classes below it. */
    void fails(String what, Class<? extends RuntimeException> due, Call call) {
        count++;
        try {
            call.run();
        } catch (RuntimeException e) {
            if (e.getClass() != due) {
                complain(what + " threw " + e + ", due is " + due.getName());
            }
            return;
        }
        complain(what + " threw nothing, due is " + due.getName());
    }

    /** The call must not throw. */
    void takes(String what, Call call) {
        count++;
        try {
            call.run();
        } catch (RuntimeException e) {
            complain(what + " threw " + e + ", due is an answer");
        }
    }

    void complain(String text) {
        wrong++;
        if (wrong <= 50) {
            System.out.println(text);
        }
    }

    void finish(String name) {
        System.out.println(name + ": " + count + " answers, " + wrong + " wrong");
        if (wrong != 0 || count == 0) {
            System.exit(1);
        }
    }
}
