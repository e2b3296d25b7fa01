/** Compares answers with those that are due, and counts. */
final class Check {
    private static int passed = 0;
    private static int failed = 0;
    private static String test = "";

    private Check() {
    }

    /** What fails from now on is told with the test's name. */
    static void begin(String name) {
        test = name.isEmpty() ? "" : name + ": ";
    }

    static void same(String what, long got, long due) {
        that(what + " answered " + got + ", due is " + due, got == due);
    }

    static void same(String what, boolean got, boolean due) {
        that(what + " answered " + got + ", due is " + due, got == due);
    }

    static void that(String whatIfNot, boolean holds) {
        if (holds) {
            passed++;
        } else {
            failed++;
            System.out.println(test + whatIfNot);
        }
    }

    static void noIndex(String what, QuayMesh quay, Runnable call) {
        throwsAndChangesNothing(what, quay, IndexOutOfBoundsException.class, call);
    }

    static void noArgument(String what, QuayMesh quay, Runnable call) {
        throwsAndChangesNothing(what, quay, IllegalArgumentException.class, call);
    }

    static void noState(String what, QuayMesh quay, Runnable call) {
        throwsAndChangesNothing(what, quay, IllegalStateException.class, call);
    }

    private static void throwsAndChangesNothing(String what, QuayMesh quay, Class<?> due, Runnable call) {
        String before = Snapshot.of(quay);
        exactly(what, due, call);
        that(what + " changed something", before.equals(Snapshot.of(quay)));
    }

    /** The call throws that exception, no other one, not one of its kind's, and by a throw of the program. */
    static void exactly(String what, Class<?> due, Runnable call) {
        RuntimeException thrown = null;
        try {
            call.run();
        } catch (RuntimeException e) {
            thrown = e;
        }
        String name = thrown == null ? "nothing" : thrown.getClass().getName();
        that(what + " threw " + name + ", due is " + due.getName(), thrown != null && thrown.getClass() == due);
        that(what + " was thrown by the machine or the library", thrown == null || isThrownByProgram(thrown));
    }

    /** An exception of the program's own throw has the program on top of its stack. */
    static boolean isThrownByProgram(RuntimeException thrown) {
        Class<?> kind = thrown.getClass();
        boolean isOfDocument = kind == IndexOutOfBoundsException.class
            || kind == IllegalArgumentException.class
            || kind == IllegalStateException.class;
        StackTraceElement[] stack = thrown.getStackTrace();
        return isOfDocument && stack.length > 0 && stack[0].getClassName().startsWith("QuayMesh");
    }

    static void end() {
        System.out.println(passed + " answers as due, " + failed + " not");
        if (failed > 0) {
            System.exit(1);
        }
    }
}
