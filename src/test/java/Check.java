/** Counts the answers that are due and those that are not; each test program ends by it. */
final class Check {
    private int passed;
    private int failed;

    static TwinKings kings(String deeds) {
        TwinKings x = new TwinKings();
        for (int i = 0; i < deeds.length(); i++) {
            x.type(deeds.charAt(i));
        }
        return x;
    }

    void due(String call, long got, long want) {
        if (got == want) {
            passed++;
        } else {
            failed++;
            System.out.println(call + " answered " + got + ", due is " + want);
        }
    }

    void holds(String what, boolean is) {
        due(what, is ? 1 : 0, 1);
    }

    void end(String name) {
        System.out.println(name + ": " + passed + " passed, " + failed + " failed");
        if (failed != 0 || passed == 0) {
            System.exit(1);
        }
    }
}
