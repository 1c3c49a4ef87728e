/** All promises: the class against the second reading, over runs of many kinds, always the same ones. */
final class WordsTest {
    private static final int RUNS = 4000;
    /** Some fewer than the document's 512, for what a step asks at once. */
    private static final int MOST_CALLS = 490;
    private long state;
    private ClassRules rules;
    private Words words;
    private int calls;
    private int most;
    /** How many of a hundred choices are made without regard to what is fitting. */
    private int oddness;
    private int names;
    private final int[] reached = new int[18];
    private int ran;
    private int called;
    private int calledAnother;

    public static void main(String[] args) {
        WordsTest test = new WordsTest();
        for (int run = 0; run < RUNS; run++) {
            test.run(run);
        }
        test.checkThatMuchIsReached();
        Due.end();
    }

    private void checkThatMuchIsReached() {
        for (int kind = 1; kind <= 17; kind++) {
            Due.same("fault " + kind + " is met often", kind == 9 || reached[kind] >= 100 ? 1 : 0, 1);
        }
        Due.same("something runs often", ran >= 1000 ? 1 : 0, 1);
        Due.same("something is called often", called >= 1000 ? 1 : 0, 1);
        Due.same("another one than runs is called often", calledAnother >= 100 ? 1 : 0, 1);
    }

    private void run(int run) {
        state = 7919L * run + 17;
        rules = new ClassRules();
        words = new Words();
        calls = 0;
        most = 2 + below(run % 10 == 0 ? 18 : 8);
        oddness = new int[] {0, 0, 0, 1, 3, 10, 40}[run % 7];
        names = 1 + below(3);
        if (run % 3 == 0) {
            packageChain(run);
        } else if (run % 3 == 1) {
            faceLattice(run);
        }
        int steps = 10 + below(50);
        for (int step = 0; step < steps; step++) {
            declare(run);
            if (step % 5 == 4) {
                ask(run);
            }
        }
        askAll(run);
    }

    private int below(int bound) {
        state = state * 6364136223846793005L + 1442695040888963407L;
        return (int) ((state >>> 33) % bound);
    }

    private boolean odd() {
        return below(100) < oddness;
    }

    private int oneOf(int... choices) {
        return choices[below(choices.length)];
    }

    /** A chain of classes in two packages, for calls that go by what takes the place of what. */
    private void packageChain(int run) {
        int length = 2 + below(6);
        for (int n = 0; n < length; n++) {
            int marks = n < length - 1 && below(4) == 0 ? 1 : 0;
            tellType(run, 0, marks, below(2), n - 1);
            if (below(5) > 0) {
                tellMember(run, n, 0, 0, marks == 1 && below(3) == 0 ? 1 : 0, oneOf(1, 1, 1, 2, 3), 0);
            }
        }
    }

    /** Faces above one another and classes below several, for faces that give the same. */
    private void faceLattice(int run) {
        int faces = 2 + below(4);
        for (int n = 0; n < faces + 2; n++) {
            boolean face = n < faces;
            tellType(run, face ? 1 : 0, below(4) == 0 ? 1 : 0, below(2), n == faces + 1 ? oneOf(-1, faces) : -1);
            for (int uppers = below(face ? 2 : 4); uppers > 0 && n > 0; uppers--) {
                tellUpper(run, n, below(Math.min(n, faces)));
            }
        }
        for (int n = 0; n < faces; n++) {
            if (below(3) > 0) {
                int marks = oneOf(1, 8, 8);
                due(run, "member", rules.member(n, 0, 0, marks, 3, 0), words.member(n, 0, 0, marks, 3, 0));
            }
        }
    }

    private void declare(int run) {
        int types = words.told(0);
        int what = below(10);
        if (types < 2 || what < 2) {
            declareType(run, types);
        } else if (what < 4) {
            int type = below(types + (odd() ? 2 : 0));
            int other = odd() ? below(23) - 1 : ofKind(1, Math.max(1, type));
            tellUpper(run, type, other);
        } else if (what == 4 && oddness > 0) {
            int type = below(types);
            int other = odd() ? below(23) - 1 : below(types);
            due(run, "permit", rules.permit(type, other), words.permit(type, other));
        } else {
            declareMember(run, types);
        }
    }

    private void declareType(int run, int types) {
        if (types >= most && !odd()) {
            return;
        }
        int kind = odd() ? below(5) : oneOf(0, 0, 0, 1, 1, 1, 2, 3);
        int marks = odd() ? below(17) : kind == 0 ? oneOf(0, 0, 0, 0, 0, 0, 1, 1, 1, 2) : kind == 1 ? below(2) : 0;
        int pack = odd() ? below(5) : below(2);
        int parent = odd() ? below(23) - 2 : kind == 0 && types > 0 ? ofKind(0, types) : -1;
        tellType(run, kind, marks, pack, parent);
    }

    /** A TYPE of a KIND below a number, if one is found soon. */
    private int ofKind(int kind, int bound) {
        for (int tries = 0; tries < 8; tries++) {
            int type = below(bound);
            if (words.kindOf(type) == kind) {
                return type;
            }
        }
        return -1;
    }

    private void declareMember(int run, int types) {
        int type = below(types + (odd() ? 1 : 0));
        boolean face = words.kindOf(type) == 1;
        int marks = odd() ? below(17) : face ? oneOf(1, 8, 8, 4) : oneOf(0, 0, 0, 0, 1, 2, 4);
        int access = odd() ? below(5) : face ? 3 : oneOf(3, 3, 3, 2, 1, 1, 0);
        int result = odd() ? below(31) : below(3) == 0 ? 10 + below(types) : 1;
        tellMember(run, type, below(names), odd() ? below(6) : below(2), marks, access, result);
    }

    private void tellType(int run, int kind, int marks, int pack, int parent) {
        due(run, "type", rules.type(kind, marks, pack, parent), words.type(kind, marks, pack, parent));
    }

    /** What brings more faults is mostly taken back before the class hears of it, so that some runs stay sound. */
    private void tellMember(int run, int type, int name, int params, int marks, int access, int result) {
        int before = words.all();
        int want = words.member(type, name, params, marks, access, result);
        if (want >= 0 && words.all() > before && below(100) >= 30 + oddness) {
            words.takeBackMember();
            return;
        }
        due(run, "member", rules.member(type, name, params, marks, access, result), want);
    }

    private void tellUpper(int run, int type, int other) {
        int before = words.all();
        int want = words.upper(type, other);
        if (want >= 0 && words.all() > before && below(100) >= 30 + oddness) {
            words.takeBackUpper(type);
            return;
        }
        due(run, "upper", rules.upper(type, other), want);
    }

    private void ask(int run) {
        int type = below(words.told(0) + 1);
        int other = below(words.told(0) + 1);
        int k = below(8);
        due(run, "faults", rules.faults(type), words.faults(type));
        askFault(run, type, k);
        due(run, "is", rules.is(type, other), words.is(type, other));
        askRuns(run, other, type, below(names), below(2));
    }

    private void askFault(int run, int type, int k) {
        int kind = words.fault(type, k, 0);
        reached[Math.max(0, kind)]++;
        due(run, "kind of " + k, rules.fault(type, k, 0), kind);
        due(run, "number of " + k, rules.fault(type, k, 1), words.fault(type, k, 1));
    }

    private void askRuns(int run, int by, int object, int name, int params) {
        int runs = words.runs(object, name, params);
        int call = words.call(by, object, name, params);
        ran += runs >= 0 ? 1 : 0;
        called += call >= 0 ? 1 : 0;
        calledAnother += call >= 0 && call != runs ? 1 : 0;
        due(run, "runs", rules.runs(object, name, params), runs);
        due(run, "call", rules.call(by, object, name, params), call);
    }

    private void askAll(int run) {
        due(run, "all", rules.all(), words.all());
        due(run, "types", rules.told(0), words.told(0));
        due(run, "members", rules.told(1), words.told(1));
        for (int type = 0; type < words.told(0); type++) {
            for (int k = 0; k <= words.faults(type) && calls < MOST_CALLS; k++) {
                askFault(run, type, k);
            }
        }
        for (int by = 0; by < words.told(0); by++) {
            for (int type = 0; type < words.told(0) && calls < MOST_CALLS; type++) {
                if (words.is(type, by) == 1) {
                    askRuns(run, by, type, 0, 0);
                    askRuns(run, by, type, below(names), 1);
                }
            }
        }
    }

    private void due(int run, String what, int got, int want) {
        calls++;
        Due.same("run " + run + ": " + what, got, want);
    }
}
