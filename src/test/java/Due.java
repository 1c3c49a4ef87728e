/** What the tests share: answers compared with those that are due, and the exit code. */
final class Due {
    private static int wrong = 0;
    private static int compared = 0;

    private Due() {
    }

    static void same(String what, int got, int want) {
        compared++;
        if (got != want) {
            wrong++;
            System.out.println(what + " answered " + got + ", due is " + want);
        }
    }

    /** All faults of a TYPE, told as kind, number, kind, number .. */
    static void faults(String what, ClassRules rules, int type, int... due) {
        same(what + ": faults(" + type + ")", rules.faults(type), due.length / 2);
        for (int k = 0; k < due.length / 2; k++) {
            same(what + ": fault(" + type + ", " + k + ", 0)", rules.fault(type, k, 0), due[2 * k]);
            same(what + ": fault(" + type + ", " + k + ", 1)", rules.fault(type, k, 1), due[2 * k + 1]);
        }
        same(what + ": the fault behind the last", rules.fault(type, due.length / 2, 0), ClassRules.BAD);
    }

    static void end() {
        System.out.println(compared + " compared, " + wrong + " not as due");
        if (wrong != 0 || compared == 0) {
            System.exit(1);
        }
    }
}
