/** Every row full: 20 TYPES, 3 UPPERS and 3 PERMITTED ones each, 80 MEMBERS; no call throws, and all answers agree. */
final class FullTest {
    public static void main(String[] args) {
        for (int shape = 0; shape < 6; shape++) {
            askMuch(shape);
        }
        longFaceChain();
        manyFaces();
        topOfLongChain();
        Due.end();
    }

    private static void askMuch(int shape) {
        ClassRules r = new ClassRules();
        Words w = new Words();
        for (int n = 0; n < 20; n++) {
            int kind = shape == 0 ? 0 : shape == 1 ? 1 : n % 4;
            int marks = shape < 4 ? 0 : (n * 7 + shape) % 16;
            int parent = shape == 2 ? (n + 1) % 20 : n - 1;
            Due.same("type", r.type(kind, marks, n % 4, parent), w.type(kind, marks, n % 4, parent));
            for (int i = 0; i < 4; i++) {
                int other = shape == 1 ? Math.max(0, n - 1 - i) : (n * 5 + i * shape) % 20;
                Due.same("upper", r.upper(n, other), w.upper(n, other));
                Due.same("permit", r.permit(n, 19 - other), w.permit(n, 19 - other));
            }
        }
        for (int m = 0; m < 81; m++) {
            int marks = shape % 2 == 0 ? 0 : m % 16;
            Due.same("member", r.member(19 - m % 20, m % 2, m / 20 % 5, marks, m % 4, m % 30),
                    w.member(19 - m % 20, m % 2, m / 20 % 5, marks, m % 4, m % 30));
        }
        Due.same("all", r.all(), w.all());
        for (int n = 0; n < 20; n++) {
            int last = w.faults(n) - 1;
            Due.same("faults", r.faults(n), w.faults(n));
            Due.same("kind", r.fault(n, last, 0), w.fault(n, last, 0));
            Due.same("number", r.fault(n, last, 1), w.fault(n, last, 1));
            Due.same("runs", r.runs(n, 1, 4), w.runs(n, 1, 4));
            Due.same("call", r.call(0, n, 0, 0), w.call(0, n, 0, 0));
        }
    }

    /** 20 faces in a chain, each with one default member: just the nearest is left. */
    private static void longFaceChain() {
        ClassRules r = new ClassRules();
        for (int n = 0; n < 19; n++) {
            r.type(1, 0, 0, -1);
            if (n > 0) {
                r.upper(n, n - 1);
            }
            for (int params = 0; params < 4; params++) {
                r.member(n, 0, params, 8, 3, 0);
            }
        }
        r.type(0, 0, 0, -1);
        r.upper(19, 18);
        r.upper(19, 0);
        r.upper(19, 9);
        for (int m = 76; m < 80; m++) {
            r.member(19, 1, m - 76, 0, 3, 0);
        }
        Due.same("nothing wrong", r.all(), 0);
        Due.same("types", r.told(0), 20);
        Due.same("members", r.told(1), 80);
        for (int by = 0; by < 20; by++) {
            Due.same("call by " + by, r.call(by, 19, 0, 3), 75);
        }
        Due.same("the last member", r.runs(19, 1, 3), 79);
        Due.same("the last by its type", r.call(19, 19, 1, 3), 79);
    }

    /** As many face ones as there can be: uppers of faces without such a one, which cover nothing. */
    private static void manyFaces() {
        ClassRules r = new ClassRules();
        r.type(0, 0, 0, -1);
        int next = 1;
        for (int n = 0; n < 20; n++) {
            for (int i = 0; i < 3 && next < 20; i++) {
                r.type(1, 0, 0, -1);
                r.upper(n, next);
                next++;
            }
        }
        int leaves = 0;
        for (int face = 19; face >= 7; face--) {
            r.member(face, 9, 4, face == 12 ? 8 : 1, 3, 0);
            leaves++;
        }
        Due.same("leaves", leaves, 13);
        Due.faults("the least of many", r, 0, 17, 0);
        Due.same("wrong", r.runs(0, 9, 4), ClassRules.WRONG);
    }

    /** 20 classes in a chain and 80 members, of which the top alone has the one that is asked for. */
    private static void topOfLongChain() {
        ClassRules r = new ClassRules();
        for (int n = 0; n < 20; n++) {
            r.type(0, 0, 0, n - 1);
        }
        r.member(0, 0, 0, 0, 3, 0);
        for (int m = 1; m < 80; m++) {
            r.member(1 + (m - 1) % 19, (m - 1) / 19, 1, 0, 3, 0);
        }
        Due.same("nothing wrong", r.all(), 0);
        Due.same("runs", r.runs(19, 0, 0), 0);
        Due.same("by the top", r.call(0, 19, 0, 0), 0);
        Due.same("by itself", r.call(19, 19, 0, 0), 0);
        Due.same("the last one told", r.call(1, 19, 4, 1), 79);
        Due.same("that of its own", r.call(1, 19, 3, 1), 76);
    }
}
