import java.util.Objects;

/** Counts the checks of a test and prints those that fail. */
final class Checks {
    private int made;
    private int failed;

    void same(String what, Object got, Object want) {
        made++;
        if (!Objects.equals(got, want)) {
            fail(what + " answered " + got + ", due is " + want);
        }
    }

    void refused(String what, Class<? extends RuntimeException> kind, Runnable call) {
        made++;
        try {
            call.run();
        } catch (RuntimeException thrown) {
            if (thrown.getClass() != kind) {
                fail(what + " threw " + thrown.getClass().getSimpleName() + ", due is " + kind.getSimpleName());
            }
            return;
        }
        fail(what + " threw nothing, due is " + kind.getSimpleName());
    }

    void fail(String message) {
        failed++;
        if (failed <= 40) {
            System.out.println(message);
        }
    }

    boolean allWell() {
        return failed == 0;
    }

    void end(String name) {
        System.out.println(name + ": " + made + " checks, " + failed + " failed");
        if (failed != 0) {
            System.exit(1);
        }
    }
}
