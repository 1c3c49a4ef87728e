/** "What it is", "Not promised": an object answers 512 calls, the last as well as the first, whichever it is. */
final class EdgeCallsTest extends Edges {
    public static void main(String[] args) {
        the512thOfEachKind();
        all512OfOneKind();
        all512Refused();
        all512Questions();
        Due.end();
    }

    /** The run, then asked on until one call is left. */
    private static ClassRules withOneLeft(Run run) {
        ClassRules r = run.play();
        for (int n = run.size(); n < Run.MOST_CALLS - 1; n++) {
            switch (n % 4) {
                case 0 -> Due.same("on the way, refused", r.upper(20, 0), BAD);
                case 1 -> Due.same("on the way, WRONG", r.runs(0, 0, 0), WRONG);
                case 2 -> Due.same("on the way, asked", r.all(), 0);
                default -> Due.same("on the way, called", r.call(3, 19, 9, 0), NONE);
            }
        }
        return r;
    }

    private static void the512thOfEachKind() {
        Run most = run().type(FACE, 0, 0, -1).type(CLASS, 0, 0, -1).type(CLASS, 0, 0, 1);
        for (int n = 3; n < 19; n++) {
            most.type(CLASS, 0, 0, n - 1);
        }
        most.upper(1, 0).member(0, 0, 0, DEFAULT, PUBLIC, 0).member(18, 1, 0, 0, PUBLIC, 0);
        for (int n = 2; n < 79; n++) {
            most.member(1 + n % 18, 5 + n % 5, n % 4, 0, PUBLIC, 0);
        }
        int wrong = most.play().all();
        lastOf(most, wrong, 19, "type", 0, 0, 0, -1);
        lastOf(most, wrong, 1, "upper", 18, 0);
        lastOf(most, wrong, 1, "permit", 18, 0);
        lastOf(most, wrong, 79, "member", 18, 9, 4, 0, 3, 29);
        lastOf(most, wrong, 79, "told", 1);
        lastOf(most, wrong, wrong, "all");
        lastOf(most, wrong, 1, "is", 18, 0);
        Run full = fullRun();
        Due.same("the 512th call, type", withOneLeft(full).type(0, 0, 0, -1), FULL);
        Due.same("the 512th call, upper", withOneLeft(full).upper(19, 0), FULL);
        Due.same("the 512th call, permit", withOneLeft(full).permit(19, 19), 1);
        Due.same("the 512th call, member", withOneLeft(full).member(19, 0, 0, 0, 0, 0), FULL);
        Due.same("the 512th call, faults", withOneLeft(full).faults(19), 0);
        Due.same("the 512th call, fault", withOneLeft(full).fault(19, 0, 0), BAD);
        Due.same("the 512th call, all", withOneLeft(full).all(), 0);
        Due.same("the 512th call, is", withOneLeft(full).is(19, 3), 1);
        Due.same("the 512th call, runs", withOneLeft(full).runs(19, 9, 4), 0);
        Due.same("the 512th call, call", withOneLeft(full).call(0, 19, 9, 4), 0);
        Due.same("the 512th call, told", withOneLeft(full).told(1), 80);
    }

    /** As the 512th call, where all() was asked before it as often as there was room. */
    private static void lastOf(Run run, int all, int due, String name, int... a) {
        ClassRules r = run.play();
        for (int n = run.size(); n < Run.MOST_CALLS - 1; n++) {
            Due.same("on the way", r.all(), all);
        }
        Due.same("the 512th call, " + name, new Run.Call(name, a).on(r), due);
    }

    private static void all512OfOneKind() {
        ClassRules types = new ClassRules();
        ClassRules uppers = plainTypes(1).play();
        ClassRules permits = plainTypes(1).play();
        ClassRules members = plainTypes(1).play();
        for (int n = 0; n < Run.MOST_CALLS - 1; n++) {
            Due.same("type " + n, types.type(0, 0, 0, -1), n < 20 ? n : FULL);
            Due.same("upper " + n, uppers.upper(0, n % 20), n < 3 ? n + 1 : FULL);
            Due.same("permit " + n, permits.permit(0, n % 20), n < 3 ? n + 1 : FULL);
            Due.same("member " + n, members.member(0, n % 10, 0, 0, PUBLIC, 0), n < 80 ? n : FULL);
        }
        Due.same("TYPES", types.told(0), 20);
    }

    private static void all512Refused() {
        ClassRules r = new ClassRules();
        for (int n = 0; n < 170; n++) {
            Due.same("no such kind", r.type(4, 0, 0, -1), BAD);
            Due.same("no such type", r.upper(0, n % 20), BAD);
            Due.same("no such type", r.member(n % 20, 0, 0, 0, 0, 0), BAD);
        }
        Due.same("the first that is good", r.type(3, 15, 3, 19), 0);
        Due.same("the 512th call", r.told(0), 1);
    }

    private static void all512Questions() {
        ClassRules r = fullRun().play();
        for (int n = fullRun().size(); n < Run.MOST_CALLS; n++) {
            int object = 3 + n % 17;
            int by = 3 + n / 17 % 17;
            Due.same("call " + n, r.call(by, object, 9, 4), by <= object ? 0 : WRONG);
        }
    }
}
