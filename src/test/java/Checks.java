import java.util.ArrayList;
import java.util.List;

/** Counts tests; a test fails if one of its answers is not the one that is due. */
final class Checks {
    private int passed = 0;
    private int failed = 0;
    private final List<String> faults = new ArrayList<>();

    void run(String name, Runnable test) {
        faults.clear();
        try {
            test.run();
        } catch (RuntimeException | StackOverflowError e) {
            faults.add("threw " + e);
        }
        if (faults.isEmpty()) {
            passed++;
        } else {
            failed++;
            System.out.println("FAILED " + name);
            for (int i = 0; i < Math.min(10, faults.size()); i++) {
                System.out.println("  " + faults.get(i));
            }
        }
    }

    void due(String call, Object want, Object got) {
        if (!want.equals(got)) {
            faults.add(call + " answered " + got + ", due is " + want);
        }
    }

    int passed() {
        return passed;
    }

    int failed() {
        return failed;
    }
}
