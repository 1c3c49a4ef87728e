/** Promises 1 to 5 and 12: a new object, type, upper, permit, member, told. */
final class DeclaringTest {
    private static final int BAD = ClassRules.BAD, FULL = ClassRules.FULL;
    private static final int[] FAR = {Integer.MIN_VALUE, -1000, 1000, Integer.MAX_VALUE};

    public static void main(String[] args) {
        newObject();
        types();
        uppers();
        permits();
        members();
        told();
        Due.end();
    }

    private static void newObject() {
        ClassRules r = new ClassRules();
        Due.same("new: types", r.told(0), 0);
        Due.same("new: members", r.told(1), 0);
        Due.same("new: all", r.all(), 0);
        Due.same("new: faults(0)", r.faults(0), BAD);
        Due.same("new: fault(0, 0, 0)", r.fault(0, 0, 0), BAD);
        Due.same("new: is(0, 0)", r.is(0, 0), BAD);
        Due.same("new: runs(0, 0, 0)", r.runs(0, 0, 0), BAD);
        Due.same("new: call(0, 0, 0, 0)", r.call(0, 0, 0, 0), BAD);
        Due.same("new: upper(0, 0)", r.upper(0, 0), BAD);
        Due.same("new: permit(0, 0)", r.permit(0, 0), BAD);
        Due.same("new: member of type 0", r.member(0, 0, 0, 0, 0, 0), BAD);
        ClassRules other = new ClassRules();
        other.type(0, 0, 0, -1);
        Due.same("another object's type", r.told(0), 0);
    }

    private static void types() {
        ClassRules r = new ClassRules();
        Due.same("kind -1", r.type(-1, 0, 0, -1), BAD);
        Due.same("kind 4", r.type(4, 0, 0, -1), BAD);
        Due.same("marks -1", r.type(0, -1, 0, -1), BAD);
        Due.same("marks 16", r.type(0, 16, 0, -1), BAD);
        Due.same("pack -1", r.type(0, 0, -1, -1), BAD);
        Due.same("pack 4", r.type(0, 0, 4, -1), BAD);
        Due.same("parent -2", r.type(0, 0, 0, -2), BAD);
        Due.same("parent 20", r.type(0, 0, 0, 20), BAD);
        for (int far : FAR) {
            Due.same("far kind", r.type(far, 0, 0, -1), BAD);
            Due.same("far marks", r.type(0, far, 0, -1), BAD);
            Due.same("far pack", r.type(0, 0, far, -1), BAD);
            Due.same("far parent", r.type(0, 0, 0, far), BAD);
        }
        Due.same("none told by bad ones", r.told(0), 0);
        Due.same("the greatest of all", r.type(3, 15, 3, 19), 0);
        for (int n = 1; n < 20; n++) {
            Due.same("type " + n, r.type(n % 4, n % 16, n % 4, n - 2), n);
        }
        Due.same("type 20", r.type(0, 0, 0, -1), FULL);
        Due.same("BAD before FULL: kind", r.type(4, 0, 0, -1), BAD);
        Due.same("BAD before FULL: marks", r.type(0, 16, 0, -1), BAD);
        Due.same("BAD before FULL: pack", r.type(0, 0, 4, -1), BAD);
        Due.same("BAD before FULL: parent", r.type(0, 0, 0, 20), BAD);
        Due.same("20 told", r.told(0), 20);
        Due.same("the last type has faults to ask for", r.faults(19) >= 0 ? 1 : 0, 1);
        Due.same("the last is itself", r.is(19, 19), 1);
    }

    private static void uppers() {
        ClassRules r = new ClassRules();
        r.type(0, 0, 0, -1);
        r.type(1, 0, 0, -1);
        Due.same("upper of -1", r.upper(-1, 0), BAD);
        Due.same("upper of 2, not there", r.upper(2, 0), BAD);
        Due.same("upper -1", r.upper(0, -1), BAD);
        Due.same("upper 20", r.upper(0, 20), BAD);
        for (int far : FAR) {
            Due.same("upper of a far one", r.upper(far, 0), BAD);
            Due.same("a far upper", r.upper(0, far), BAD);
        }
        Due.same("first", r.upper(0, 1), 1);
        Due.same("the same once more", r.upper(0, 1), 2);
        Due.same("one that is not there", r.upper(0, 19), 3);
        Due.same("a fourth", r.upper(0, 0), FULL);
        Due.same("BAD before FULL", r.upper(0, 20), BAD);
        Due.same("those of another one", r.upper(1, 0), 1);
        Due.same("itself", r.upper(1, 1), 2);
        Due.faults("a refused upper is not kept", r, 0, 1, 19, 2, 0, 3, 19, 8, 1);
    }

    private static void permits() {
        ClassRules r = new ClassRules();
        r.type(0, 4, 0, -1);
        r.type(0, 2, 0, 0);
        Due.same("permit of -1", r.permit(-1, 0), BAD);
        Due.same("permit of 2, not there", r.permit(2, 0), BAD);
        Due.same("permit -1", r.permit(0, -1), BAD);
        Due.same("permit 20", r.permit(0, 20), BAD);
        for (int far : FAR) {
            Due.same("permit of a far one", r.permit(far, 0), BAD);
            Due.same("a far permitted one", r.permit(0, far), BAD);
        }
        Due.same("first", r.permit(0, 1), 1);
        Due.same("the same once more", r.permit(0, 1), 2);
        Due.faults("permitted twice is no fault", r, 0);
        Due.same("one that is not there", r.permit(0, 19), 3);
        Due.same("a fourth", r.permit(0, 18), FULL);
        Due.same("BAD before FULL", r.permit(0, 20), BAD);
        Due.same("those of another one", r.permit(1, 0), 1);
        Due.faults("a refused one is not kept", r, 0, 1, 19);
    }

    private static void members() {
        ClassRules r = new ClassRules();
        r.type(0, 0, 0, -1);
        int[] most = {0, 9, 4, 15, 3, 29};
        for (int at = 0; at < 6; at++) {
            int[] a = {0, 0, 0, 0, 0, 0};
            a[at] = -1;
            Due.same("member argument " + at + " is -1", r.member(a[0], a[1], a[2], a[3], a[4], a[5]), BAD);
            a[at] = most[at] + 1;
            Due.same("member argument " + at + " is too great", r.member(a[0], a[1], a[2], a[3], a[4], a[5]), BAD);
            for (int far : FAR) {
                a[at] = far;
                Due.same("member argument " + at + " is far", r.member(a[0], a[1], a[2], a[3], a[4], a[5]), BAD);
            }
        }
        Due.same("none told by bad ones", r.told(1), 0);
        Due.same("the greatest of all", r.member(0, 9, 4, 15, 3, 29), 0);
        for (int n = 1; n < 80; n++) {
            Due.same("member " + n, r.member(0, n % 10, n % 5, 0, n % 4, n % 30), n);
        }
        Due.same("member 80", r.member(0, 0, 0, 0, 0, 0), FULL);
        Due.same("BAD before FULL: type", r.member(1, 0, 0, 0, 0, 0), BAD);
        Due.same("BAD before FULL: result", r.member(0, 0, 0, 0, 0, 30), BAD);
        Due.same("80 told", r.told(1), 80);
    }

    private static void told() {
        ClassRules r = new ClassRules();
        r.type(0, 0, 0, -1);
        r.type(0, 0, 0, -1);
        r.member(1, 0, 0, 0, 0, 0);
        Due.same("types told", r.told(0), 2);
        Due.same("members told", r.told(1), 1);
        Due.same("told(-1)", r.told(-1), BAD);
        Due.same("told(2)", r.told(2), BAD);
        for (int far : FAR) {
            Due.same("told far", r.told(far), BAD);
        }
    }
}
