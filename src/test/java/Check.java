/** Counts the answers that are as due, and tells those that are not. */
final class Check {
    private int passed = 0;
    private int failed = 0;

    void same(String what, long got, long want) {
        if (got == want) {
            passed++;
            return;
        }
        failed++;
        if (failed <= 20) System.out.println(what + " answered " + got + ", due is " + want);
    }

    void holds(String what, boolean truth) {
        same(what, truth ? 1 : 0, 1);
    }

    void end() {
        System.out.println("answers as due: " + passed + ", not as due: " + failed);
        if (failed > 0 || passed == 0) System.exit(1);
    }
}
