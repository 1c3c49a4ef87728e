import java.util.ArrayList;
import java.util.Arrays;
import java.util.List;

/** Calls told once and played on new objects, as many as the questions need: an object is good for 512 calls. */
final class Run {
    static final int MOST_CALLS = 512;

    /** One call of the class by its name. */
    record Call(String name, int... a) {
        int on(ClassRules r) {
            return switch (name) {
                case "type" -> r.type(a[0], a[1], a[2], a[3]);
                case "upper" -> r.upper(a[0], a[1]);
                case "permit" -> r.permit(a[0], a[1]);
                case "member" -> r.member(a[0], a[1], a[2], a[3], a[4], a[5]);
                case "faults" -> r.faults(a[0]);
                case "fault" -> r.fault(a[0], a[1], a[2]);
                case "all" -> r.all();
                case "is" -> r.is(a[0], a[1]);
                case "runs" -> r.runs(a[0], a[1], a[2]);
                case "call" -> r.call(a[0], a[1], a[2], a[3]);
                case "told" -> r.told(a[0]);
                default -> throw new IllegalArgumentException(name);
            };
        }

        @Override
        public String toString() {
            return name + Arrays.toString(a);
        }
    }

    private final List<Call> calls = new ArrayList<>();
    private List<Call> questions = null;
    private List<Integer> answers = null;

    Run type(int kind, int marks, int pack, int parent) {
        return then("type", kind, marks, pack, parent);
    }

    Run upper(int type, int other) {
        return then("upper", type, other);
    }

    Run permit(int type, int other) {
        return then("permit", type, other);
    }

    Run member(int type, int name, int params, int marks, int access, int result) {
        return then("member", type, name, params, marks, access, result);
    }

    Run then(String name, int... a) {
        calls.add(new Call(name, a));
        questions = null;
        answers = null;
        return this;
    }

    int size() {
        return calls.size();
    }

    ClassRules play() {
        ClassRules r = new ClassRules();
        for (Call call : calls) {
            int answer = call.on(r);
            if (answer < 0) {
                Due.same("a call that the test takes for a good one, " + call, answer, 0);
            }
        }
        return r;
    }

    /** The call's answer after the run, on a new object. */
    Run due(String what, int due, String name, int... a) {
        Call call = new Call(name, a);
        Due.same(what + ": " + call, call.on(play()), due);
        return this;
    }

    /** All faults of a TYPE, told as kind, number, kind, number .. */
    Run faults(String what, int type, int... due) {
        Due.faults(what, play(), type, due);
        return this;
    }

    /** As due, and after it every question and every declaration is answered as without it. */
    Run refuses(String what, int due, String name, int... a) {
        due(what, due, name, a);
        leavesAsItWas(what, name, a);
        return this;
    }

    Run leavesAsItWas(String what, String name, int... a) {
        Call call = new Call(name, a);
        if (answers == null) {
            questions = questions();
            answers = answersAfter(null, false);
        }
        differences(what + ", nothing asked before " + call, answersAfter(call, false));
        differences(what + ", all() asked before " + call, answersAfter(call, true));
        return this;
    }

    private void differences(String what, List<Integer> got) {
        int found = 0;
        String first = "";
        for (int i = 0; i < got.size(); i++) {
            if (!got.get(i).equals(answers.get(i))) {
                found++;
                first = found == 1 ? questions.get(i) + " " + answers.get(i) + " -> " + got.get(i) : first;
            }
        }
        Due.same(what + ": other answers afterwards, first " + first, found, 0);
    }

    private List<Integer> answersAfter(Call call, boolean askedBefore) {
        List<Integer> found = new ArrayList<>();
        ClassRules r = null;
        int made = 0;
        for (Call question : questions) {
            if (r == null || made == MOST_CALLS || declares(question)) {
                r = play();
                made = calls.size();
                made += askedBefore && ask(new Call("all"), r) ? 1 : 0;
                made += call != null && ask(call, r) ? 1 : 0;
            }
            found.add(question.on(r));
            made++;
            if (declares(question)) {
                r = null;
            }
        }
        return found;
    }

    private static boolean ask(Call call, ClassRules r) {
        call.on(r);
        return true;
    }

    private static boolean declares(Call call) {
        return List.of("type", "upper", "permit", "member").contains(call.name);
    }

    /** All that can be asked about what was told, and what a further declaration would be answered. */
    private List<Call> questions() {
        ClassRules r = play();
        int types = r.told(0);
        List<Call> list = new ArrayList<>(List.of(new Call("told", 0), new Call("told", 1), new Call("all")));
        for (int type = 0; type < types; type++) {
            list.add(new Call("faults", type));
            int faults = r.faults(type);
            for (int k = 0; k <= faults; k++) {
                list.add(new Call("fault", type, k, 0));
                list.add(new Call("fault", type, k, 1));
            }
            for (int other = 0; other <= types; other++) {
                list.add(new Call("is", type, other));
            }
            for (int[] sort : sorts()) {
                list.add(new Call("runs", type, sort[0], sort[1]));
                for (int by = 0; by < types; by++) {
                    list.add(new Call("call", by, type, sort[0], sort[1]));
                }
            }
            list.add(new Call("upper", type, 0));
            list.add(new Call("permit", type, 0));
        }
        list.add(new Call("type", 0, 0, 0, -1));
        list.add(new Call("member", 0, 0, 0, 0, 0, 0));
        return list;
    }

    /** Some of the NAMES with PARAMS that members of the run have; few, for each is asked of every two TYPES. */
    private List<int[]> sorts() {
        List<int[]> sorts = new ArrayList<>();
        for (Call call : calls) {
            if (call.name.equals("member") && sorts.size() < 3) {
                int[] sort = {call.a[1], call.a[2]};
                if (sorts.stream().noneMatch(s -> Arrays.equals(s, sort))) {
                    sorts.add(sort);
                }
            }
        }
        return sorts;
    }
}
