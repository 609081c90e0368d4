/** Runs every test of the project; its end is 1 if one failed. */
public final class AllTests {
    private AllTests() {
    }

    public static void main(String[] args) {
        Checks checks = new Checks();
        new PromisesOfBooks(checks).all();
        new PromisesOfMoving(checks).all();
        new PromisesOfRow(checks).all();
        new EdgesOfBooks(checks).all();
        new EdgesOfMoving(checks).all();
        new EdgesOfRow(checks).all();
        new Refused(checks).all();
        new ModelRuns(checks).all();
        new Readme(checks).all();
        new Face(checks).all();
        new Language(checks, args.length > 0 ? args[0] : "src/main/java/BooksMoved.java").all();
        System.out.println(checks.passed() + " passed, " + checks.failed() + " failed");
        if (checks.failed() > 0 || checks.passed() == 0) {
            System.exit(1);
        }
    }
}
