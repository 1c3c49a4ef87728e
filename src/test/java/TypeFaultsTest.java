/** Promises 6 to 9: faults 1 to 8, fault, all, is. */
final class TypeFaultsTest {
    private static final int BAD = ClassRules.BAD;
    private static final int CLASS = 0, FACE = 1, ENUM = 2, RECORD = 3;
    private static final int ABSTRACT = 1, FINAL = 2, SEALED = 4, OPEN = 8;

    public static void main(String[] args) {
        wrongArguments();
        missing();
        rings();
        kinds();
        finalParents();
        marks();
        underSealed();
        permitted();
        twice();
        order();
        is();
        Due.end();
    }

    private static void wrongArguments() {
        ClassRules r = new ClassRules();
        r.type(CLASS, ABSTRACT | FINAL, 0, -1);
        Due.faults("one fault", r, 0, 5, 0);
        int[] wrong = {Integer.MIN_VALUE, -1, 1, 2, 20, Integer.MAX_VALUE};
        for (int w : wrong) {
            Due.same("faults(" + w + ")", r.faults(w), BAD);
            Due.same("fault of " + w, r.fault(w, 0, 0), BAD);
            Due.same("fault " + w, r.fault(0, w, 0), BAD);
            Due.same("what " + w, r.fault(0, 0, w), w == 1 ? 0 : BAD);
            Due.same("is(" + w + ", 0)", r.is(w, 0), BAD);
            Due.same("is(0, " + w + ")", r.is(0, w), BAD);
        }
    }

    private static void missing() {
        ClassRules r = new ClassRules();
        r.type(CLASS, SEALED, 0, -1);
        r.permit(0, 7);
        r.permit(0, 5);
        r.permit(0, 7);
        Due.faults("permitted ones, passed over in 7", r, 0, 1, 5, 1, 7, 7, 0);
        r.type(CLASS, 0, 0, 9);
        Due.faults("a parent, which is no CLASS either", r, 1, 1, 9, 3, 9);
        r.type(CLASS, 0, 0, -1);
        r.upper(2, 8);
        r.upper(2, 8);
        Due.faults("an upper, passed over in 8", r, 2, 1, 8, 3, 8);
        r.type(FACE, 0, 0, -1);
        r.permit(3, 9);
        Due.faults("not sealed, the permitted one passed over", r, 3, 1, 9);
        Due.same("all", r.all(), 8);
        r.type(CLASS, FINAL, 0, 0);
        r.type(CLASS, FINAL, 0, 0);
        Due.faults("one of two has come", r, 0, 1, 7);
        r.type(CLASS, FINAL, 0, -1);
        r.type(CLASS, FINAL, 0, 0);
        Due.faults("both have come", r, 0);
        r.type(FACE, 0, 0, -1);
        Due.faults("the upper has come, told twice", r, 2, 8, 8);
        r.type(CLASS, 0, 0, -1);
        Due.faults("the parent has come", r, 1);
        ClassRules all = new ClassRules();
        all.type(CLASS, 0, 0, 19);
        all.upper(0, 18);
        all.upper(0, 17);
        all.upper(0, 16);
        all.permit(0, 19);
        all.permit(0, 15);
        all.permit(0, 14);
        Due.faults("each once", all, 0, 1, 14, 1, 15, 1, 16, 1, 17, 1, 18, 1, 19, 3, 16, 3, 17, 3, 18, 3, 19);
    }

    private static void rings() {
        ClassRules r = new ClassRules();
        r.type(CLASS, 0, 0, 0);
        Due.faults("above itself", r, 0, 2, 0);
        r.type(CLASS, 0, 0, 2);
        Due.faults("not yet", r, 1, 1, 2, 3, 2);
        r.type(CLASS, 0, 0, 3);
        r.type(CLASS, 0, 0, 1);
        Due.faults("a ring of three: 1", r, 1, 2, 1);
        Due.faults("a ring of three: 2", r, 2, 2, 2);
        Due.faults("a ring of three: 3", r, 3, 2, 3);
        r.type(CLASS, 0, 0, 3);
        Due.faults("below a ring, not in it", r, 4);
        Due.same("is what is in the ring", r.is(4, 2), 1);
        Due.same("in the ring they are one another", r.is(1, 3), 1);
        r.type(FACE, 0, 0, -1);
        r.type(FACE, 0, 0, -1);
        r.upper(5, 6);
        Due.faults("faces, no ring", r, 5);
        r.upper(6, 5);
        Due.faults("a ring of faces", r, 6, 2, 6);
    }

    private static void kinds() {
        ClassRules r = new ClassRules();
        for (int kind = 0; kind < 4; kind++) {
            r.type(kind, 0, 0, -1);
        }
        r.type(CLASS, 0, 0, CLASS);
        Due.faults("a class under a class", r, 4);
        for (int kind = 1; kind < 4; kind++) {
            int low = r.type(CLASS, 0, 0, kind);
            Due.faults("a class under kind " + kind, r, low, 3, kind);
        }
        for (int kind = 1; kind < 4; kind++) {
            int low = r.type(kind, 0, 0, CLASS);
            Due.faults("kind " + kind + " with a parent", r, low, 3, 0);
        }
        for (int kind = 0; kind < 4; kind++) {
            int low = r.type(kind, 0, 0, -1);
            r.upper(low, FACE);
            Due.faults("kind " + kind + " under a face", r, low);
        }
        r.upper(11, RECORD);
        r.upper(11, CLASS);
        Due.faults("uppers that are no faces", r, 11, 3, 0, 3, 3);
        r.upper(12, ENUM);
        Due.faults("an enum as upper", r, 12, 3, 2);
        int low = r.type(FACE, 0, 0, ENUM);
        r.upper(low, ENUM);
        Due.faults("as parent and as upper: once", r, low, 3, 2);
        low = r.type(RECORD, 0, 0, 19);
        Due.faults("a record with a parent that is not there", r, low, 1, 19, 3, 19);
    }

    private static void finalParents() {
        ClassRules r = new ClassRules();
        r.type(CLASS, FINAL, 0, -1);
        r.type(CLASS, 0, 0, 0);
        Due.faults("under a final one", r, 1, 4, 0);
        r.type(CLASS, 0, 0, 1);
        Due.faults("two steps below", r, 2);
        r.type(FACE, FINAL, 0, -1);
        r.type(CLASS, 0, 0, -1);
        r.upper(4, 3);
        Due.faults("a final upper is not the parent", r, 4);
    }

    private static void marks() {
        for (int kind = 0; kind < 4; kind++) {
            for (int marks = 0; marks < 16; marks++) {
                ClassRules r = new ClassRules();
                r.type(kind, marks, 0, -1);
                boolean has5 = r.fault(0, 0, 0) == 5 && r.fault(0, 0, 1) == 0;
                Due.same("fault 5 of kind " + kind + ", marks " + marks, has5 ? 1 : 0, wrongMarks(kind, marks) ? 1 : 0);
            }
        }
    }

    private static boolean wrongMarks(int kind, int marks) {
        switch (kind) {
            case CLASS:
                return !(marks == 0 || marks == 1 || marks == 2 || marks == 4 || marks == 5 || marks == 8 || marks == 9);
            case FACE:
                return !(marks == 0 || marks == 1 || marks == 4 || marks == 5 || marks == 8 || marks == 9);
            default:
                return marks != 0;
        }
    }

    private static void underSealed() {
        int[] decided = {FINAL, SEALED, OPEN, ABSTRACT | SEALED, ABSTRACT | OPEN};
        for (int marks : decided) {
            ClassRules r = sealedAndBelow(CLASS, marks, true);
            Due.same("permitted, marks " + marks, count(r, 1, 6), 0);
            r = sealedAndBelow(CLASS, marks, false);
            Due.same("not permitted, marks " + marks, count(r, 1, 6), 1);
        }
        Due.faults("permitted, without a mark", sealedAndBelow(CLASS, 0, true), 1, 6, 0);
        Due.faults("permitted, ABSTRACT", sealedAndBelow(CLASS, ABSTRACT, true), 1, 6, 0);
        Due.faults("a face, permitted, without a mark", sealedAndBelow(FACE, 0, true), 1, 6, 0);
        Due.faults("a face, permitted, open", sealedAndBelow(FACE, OPEN, true), 1);
        Due.faults("an enum, permitted", sealedAndBelow(ENUM, 0, true), 1);
        Due.faults("a record, permitted", sealedAndBelow(RECORD, 0, true), 1);
        Due.faults("an enum, not permitted", sealedAndBelow(ENUM, 0, false), 1, 6, 0);
        Due.faults("a record, not permitted", sealedAndBelow(RECORD, 0, false), 1, 6, 0);
        ClassRules r = new ClassRules();
        r.type(CLASS, OPEN, 0, -1);
        Due.faults("open under nothing", r, 0, 6, 0);
        r.type(CLASS, OPEN, 0, 0);
        Due.faults("open under one that is not sealed", r, 1, 6, 1);
        r.type(FACE, OPEN, 0, -1);
        r.upper(2, 9);
        Due.faults("open under one that is not there", r, 2, 1, 9, 3, 9, 6, 2);
        r.type(CLASS, SEALED, 0, -1);
        r.permit(3, 4);
        r.type(CLASS, OPEN, 0, 3);
        r.type(CLASS, OPEN, 0, 4);
        Due.faults("the parent is sealed", r, 4);
        Due.faults("only the parent's parent is sealed", r, 5, 6, 5);
        ClassRules late = new ClassRules();
        late.type(CLASS, FINAL, 0, 1);
        late.type(CLASS, SEALED, 0, -1);
        Due.faults("the sealed one is the last told", late, 0, 6, 1);
        late.permit(1, 0);
        Due.faults("it permits one told before", late, 1);
        late.type(CLASS, SEALED, 0, -1);
        late.permit(2, 0);
        Due.faults("which is not below another one", late, 2, 7, 0);
    }

    private static ClassRules sealedAndBelow(int kind, int marks, boolean permitted) {
        ClassRules r = new ClassRules();
        boolean asParent = kind == CLASS;
        r.type(asParent ? CLASS : FACE, SEALED, 0, -1);
        r.type(kind, marks, 0, asParent ? 0 : -1);
        if (!asParent) {
            r.upper(1, 0);
        }
        if (permitted) {
            r.permit(0, 1);
        }
        return r;
    }

    private static int count(ClassRules r, int type, int kind) {
        int found = 0;
        for (int k = 0; k < r.faults(type); k++) {
            found += r.fault(type, k, 0) == kind ? 1 : 0;
        }
        return found;
    }

    private static void permitted() {
        ClassRules r = new ClassRules();
        r.type(FACE, SEALED, 0, -1);
        Due.faults("sealed without permitted ones", r, 0, 7, 0);
        r.type(CLASS, FINAL, 0, -1);
        r.permit(0, 1);
        Due.faults("a permitted one that is not below", r, 0, 7, 1);
        r.upper(1, 0);
        Due.faults("now it is", r, 0);
        r.type(CLASS, 0, 0, -1);
        r.permit(2, 3);
        r.type(CLASS, 0, 0, 2);
        Due.faults("permitted ones, not sealed", r, 2, 7, 2);
        r.type(CLASS, SEALED, 0, -1);
        r.permit(4, 5);
        r.permit(4, 6);
        r.permit(4, 4);
        r.type(CLASS, OPEN, 0, 4);
        r.type(CLASS, FINAL, 0, 5);
        Due.faults("two steps below, and itself", r, 4, 7, 4, 7, 6);
    }

    private static void twice() {
        ClassRules r = new ClassRules();
        r.type(FACE, 0, 0, -1);
        r.type(CLASS, 0, 0, -1);
        r.upper(1, 0);
        Due.faults("once", r, 1);
        r.upper(1, 0);
        Due.faults("twice", r, 1, 8, 0);
        r.upper(1, 0);
        Due.faults("three times is one fault", r, 1, 8, 0);
    }

    private static void order() {
        ClassRules r = new ClassRules();
        r.type(CLASS, FINAL | SEALED, 0, 0);
        r.type(FACE, SEALED, 0, -1);
        r.type(ENUM, 0, 0, -1);
        r.upper(0, 2);
        r.upper(0, 1);
        r.upper(0, 1);
        r.permit(0, 12);
        r.permit(0, 2);
        r.member(0, 0, 0, 8, 3, 0);
        r.member(0, 0, 0, 8, 3, 0);
        Due.faults("all kinds from 1 to 11", r, 0,
                1, 12, 2, 0, 3, 2, 4, 0, 5, 0, 6, 0, 6, 1, 7, 2, 8, 1, 10, 1, 11, 0, 11, 1);
        Due.same("all", r.all(), r.faults(0) + r.faults(1) + r.faults(2));
        Due.same("all of them", r.all(), 13);
        Due.same("asked again", r.fault(0, 8, 1), 1);
    }

    private static void is() {
        ClassRules r = new ClassRules();
        r.type(FACE, 0, 0, -1);
        r.type(FACE, 0, 0, -1);
        r.type(CLASS, 0, 0, -1);
        r.type(CLASS, 0, 0, 2);
        r.type(CLASS, 0, 0, 3);
        r.upper(1, 0);
        r.upper(3, 1);
        int[][] due = {{1, 0, 0, 0, 0}, {1, 1, 0, 0, 0}, {0, 0, 1, 0, 0}, {1, 1, 1, 1, 0}, {1, 1, 1, 1, 1}};
        for (int type = 0; type < 5; type++) {
            for (int other = 0; other < 5; other++) {
                Due.same("is(" + type + ", " + other + ")", r.is(type, other), due[type][other]);
            }
        }
        ClassRules middle = new ClassRules();
        middle.type(CLASS, 0, 0, 2);
        middle.type(CLASS, 0, 0, 0);
        middle.type(CLASS, 0, 0, -1);
        Due.same("by way of type 0", middle.is(1, 2), 1);
        Due.same("not the other way", middle.is(2, 1), 0);
        r.type(CLASS, 0, 0, 6);
        Due.same("is one that is not there", r.is(5, 6), BAD);
        r.type(CLASS, 0, 0, 4);
        Due.same("is one that has come, and what is above that", r.is(5, 6) + r.is(5, 0), 2);
    }
}
