/** Promises 10 and 11: runs and call. */
final class RunningTest {
    private static final int BAD = ClassRules.BAD, NONE = ClassRules.NONE, WRONG = ClassRules.WRONG;
    private static final int CLASS = 0, FACE = 1, ENUM = 2, RECORD = 3;
    private static final int ABSTRACT = 1, STATIC = 4, DEFAULT = 8;
    private static final int PRIVATE = 0, PACKAGE = 1, PROTECTED = 2, PUBLIC = 3;

    public static void main(String[] args) {
        wrongArguments();
        wrongTypes();
        runs();
        runsOfFaces();
        callWrong();
        callPrivate();
        callFaces();
        callPackages();
        callLongChain();
        callAbstract();
        Due.end();
    }

    private static void wrongArguments() {
        ClassRules r = new ClassRules();
        r.type(CLASS, 0, 0, -1);
        r.type(FACE, 0, 0, -1);
        int[] wrong = {Integer.MIN_VALUE, -1, 20, Integer.MAX_VALUE};
        for (int w : wrong) {
            Due.same("runs of " + w, r.runs(w, 0, 0), BAD);
            Due.same("runs name " + w, r.runs(0, w, 0), BAD);
            Due.same("runs params " + w, r.runs(0, 0, w), BAD);
            Due.same("call by " + w, r.call(w, 0, 0, 0), BAD);
            Due.same("call on " + w, r.call(0, w, 0, 0), BAD);
            Due.same("call name " + w, r.call(0, 0, w, 0), BAD);
            Due.same("call params " + w, r.call(0, 0, 0, w), BAD);
        }
        Due.same("runs: type 2", r.runs(2, 0, 0), BAD);
        Due.same("runs: name 10", r.runs(0, 10, 0), BAD);
        Due.same("runs: params 5", r.runs(0, 0, 5), BAD);
        Due.same("call: type 2", r.call(2, 0, 0, 0), BAD);
        Due.same("call: object 2", r.call(0, 2, 0, 0), BAD);
        Due.same("call: name 10", r.call(0, 0, 10, 0), BAD);
        Due.same("call: params 5", r.call(0, 0, 0, 5), BAD);
        Due.same("BAD before WRONG: runs", r.runs(1, 10, 0), BAD);
        Due.same("BAD before WRONG: call", r.call(0, 1, 0, 5), BAD);
        Due.same("the greatest: runs", r.runs(0, 9, 4), NONE);
        Due.same("the greatest: call", r.call(0, 0, 9, 4), NONE);
    }

    private static void wrongTypes() {
        ClassRules r = new ClassRules();
        r.type(CLASS, ABSTRACT, 0, -1);
        r.type(CLASS, 0, 0, 0);
        r.type(FACE, 0, 0, -1);
        r.upper(1, 2);
        r.member(0, 0, 0, 0, PUBLIC, 0);
        Due.same("abstract", r.runs(0, 0, 0), WRONG);
        Due.same("a face", r.runs(2, 0, 0), WRONG);
        Due.same("a class below both", r.runs(1, 0, 0), 0);
        Due.same("on an abstract one", r.call(0, 0, 0, 0), WRONG);
        r.permit(2, 1);
        Due.same("a face above has a fault", r.runs(1, 0, 0), WRONG);
        Due.same("so too a call", r.call(0, 1, 0, 0), WRONG);
        ClassRules s = new ClassRules();
        s.type(CLASS, 0, 0, -1);
        s.type(CLASS, 0, 0, 0);
        s.type(CLASS, 0, 0, 1);
        s.member(0, 0, 0, 0, PUBLIC, 0);
        s.member(0, 0, 0, 0, PUBLIC, 0);
        Due.same("two steps above is a fault", s.runs(2, 0, 0), WRONG);
        s.type(CLASS, 0, 0, -1);
        Due.same("a fault elsewhere does not matter", s.runs(3, 0, 0), NONE);
    }

    private static void runs() {
        ClassRules r = new ClassRules();
        r.type(CLASS, 0, 0, -1);
        r.type(CLASS, 0, 1, 0);
        r.type(CLASS, 0, 0, 1);
        r.member(0, 0, 0, 0, PACKAGE, 0);
        r.member(0, 1, 0, 0, PRIVATE, 0);
        r.member(0, 2, 0, STATIC, PUBLIC, 0);
        r.member(0, 3, 0, 0, PROTECTED, 0);
        r.member(0, 4, 1, 0, PUBLIC, 0);
        Due.same("nothing wrong", r.all(), 0);
        Due.same("package, its own", r.runs(0, 0, 0), 0);
        Due.same("package, from another one", r.runs(1, 0, 0), NONE);
        Due.same("package, from the same one, across another", r.runs(2, 0, 0), 0);
        Due.same("private, its own", r.runs(0, 1, 0), 1);
        Due.same("private, from below", r.runs(2, 1, 0), NONE);
        Due.same("static", r.runs(0, 2, 0), NONE);
        Due.same("protected, from another package", r.runs(1, 3, 0), 3);
        Due.same("other params", r.runs(0, 4, 0), NONE);
        Due.same("params", r.runs(2, 4, 1), 4);
        r.member(1, 4, 1, 0, PUBLIC, 0);
        Due.same("the nearest", r.runs(2, 4, 1), 5);
        Due.same("its own", r.runs(0, 4, 1), 4);
        r.member(1, 3, 0, 0, PRIVATE, 0);
        Due.same("a private one between", r.runs(2, 3, 0), 3);
        Due.same("a private one of its own", r.runs(1, 3, 0), 6);
    }

    private static void runsOfFaces() {
        ClassRules r = new ClassRules();
        r.type(FACE, 0, 0, -1);
        r.type(FACE, 0, 1, -1);
        r.upper(1, 0);
        r.type(ENUM, 0, 0, -1);
        r.type(RECORD, 0, 0, -1);
        r.upper(2, 0);
        r.upper(2, 1);
        r.upper(3, 0);
        r.member(0, 0, 0, DEFAULT, PUBLIC, 0);
        r.member(1, 0, 0, DEFAULT, PUBLIC, 0);
        r.member(0, 1, 0, STATIC, PUBLIC, 0);
        r.member(0, 2, 0, 0, PRIVATE, 0);
        Due.same("nothing wrong", r.all(), 0);
        Due.same("the nearer face", r.runs(2, 0, 0), 1);
        Due.same("the face", r.runs(3, 0, 0), 0);
        Due.same("static in a face", r.runs(3, 1, 0), NONE);
        Due.same("private in a face", r.runs(3, 2, 0), NONE);
        r.member(3, 0, 0, 0, PUBLIC, 0);
        Due.same("its own", r.runs(3, 0, 0), 4);
        r.type(CLASS, 0, 0, -1);
        r.type(CLASS, 0, 0, 4);
        r.upper(5, 1);
        r.member(4, 0, 0, 0, PUBLIC, 0);
        Due.same("that of the class above goes before that of the face", r.runs(5, 0, 0), 5);
    }

    private static void callWrong() {
        ClassRules r = new ClassRules();
        r.type(CLASS, 0, 0, -1);
        r.type(CLASS, 0, 0, 0);
        r.type(CLASS, 0, 0, -1);
        r.member(1, 0, 0, 0, PUBLIC, 0);
        Due.same("the object is above", r.call(1, 0, 0, 0), WRONG);
        Due.same("the object is another one", r.call(2, 1, 0, 0), WRONG);
        Due.same("nothing is meant for the type", r.call(0, 1, 0, 0), NONE);
        Due.same("by itself", r.call(1, 1, 0, 0), 0);
        r.member(0, 0, 0, 0, PUBLIC, 0);
        Due.same("one told before takes the place", r.call(0, 1, 0, 0), 0);
        Due.same("not on an object above", r.call(0, 0, 0, 0), 1);
    }

    private static void callPrivate() {
        ClassRules r = new ClassRules();
        r.type(CLASS, 0, 0, -1);
        r.type(CLASS, 0, 0, 0);
        r.type(CLASS, 0, 0, 1);
        r.member(0, 0, 0, 0, PRIVATE, 0);
        r.member(1, 0, 0, 0, PUBLIC, 0);
        r.member(2, 0, 0, 0, PUBLIC, 0);
        Due.same("private is meant", r.call(0, 2, 0, 0), 0);
        Due.same("public is meant", r.call(1, 2, 0, 0), 2);
        r.member(0, 1, 0, 0, PUBLIC, 0);
        r.member(2, 1, 0, 0, PRIVATE, 0);
        Due.same("a private one takes no place", r.call(0, 2, 1, 0), 3);
        Due.same("but it is meant by its own type", r.call(2, 2, 1, 0), 4);
        Due.same("and is what runs", r.runs(2, 1, 0), 4);
    }

    private static void callFaces() {
        ClassRules r = new ClassRules();
        r.type(FACE, 0, 0, -1);
        r.type(FACE, 0, 0, -1);
        r.type(FACE, 0, 0, -1);
        r.upper(2, 0);
        r.upper(2, 1);
        r.type(CLASS, ABSTRACT, 0, -1);
        r.upper(3, 2);
        r.type(CLASS, 0, 0, 3);
        r.member(0, 0, 0, ABSTRACT, PUBLIC, 0);
        r.member(1, 0, 0, ABSTRACT, PUBLIC, 0);
        r.member(4, 0, 0, 0, PUBLIC, 0);
        r.member(0, 1, 0, DEFAULT, PUBLIC, 0);
        Due.same("nothing wrong", r.all(), 0);
        for (int by = 0; by < 5; by++) {
            Due.same("by " + by, r.call(by, 4, 0, 0), 2);
            Due.same("the default one by " + by, r.call(by, 4, 1, 0), by == 1 ? NONE : 3);
        }
        r.type(CLASS, 0, 0, 4);
        r.member(5, 1, 0, 0, PUBLIC, 0);
        Due.same("what runs on the object", r.call(0, 5, 1, 0), 4);
        Due.same("what runs on one above", r.call(0, 4, 1, 0), 3);
        ClassRules p = new ClassRules();
        p.type(FACE, 0, 0, -1);
        p.type(CLASS, 0, 0, -1);
        p.upper(1, 0);
        p.member(0, 0, 0, DEFAULT, PUBLIC, 0);
        p.member(1, 0, 0, 0, PRIVATE, 0);
        Due.same("by the face: its own private one runs", p.call(0, 1, 0, 0), 1);
    }

    private static void callPackages() {
        ClassRules r = new ClassRules();
        r.type(CLASS, 0, 0, -1);
        r.type(CLASS, 0, 1, 0);
        r.type(CLASS, 0, 0, 1);
        r.type(CLASS, 0, 1, 2);
        r.member(0, 0, 0, 0, PACKAGE, 0);
        r.member(1, 0, 0, 0, PUBLIC, 0);
        r.member(2, 0, 0, 0, PUBLIC, 0);
        r.member(3, 0, 0, 0, PUBLIC, 0);
        Due.same("nothing wrong", r.all(), 0);
        Due.same("another package takes no place", r.call(0, 1, 0, 0), 0);
        Due.same("the same package does, across another", r.call(0, 2, 0, 0), 2);
        Due.same("by one that takes its place", r.call(0, 3, 0, 0), 3);
        Due.same("public in between", r.call(1, 3, 0, 0), 3);
        Due.same("by itself", r.call(2, 2, 0, 0), 2);
        Due.same("by the type in between", r.call(1, 2, 0, 0), 2);
    }

    private static void callLongChain() {
        ClassRules r = new ClassRules();
        for (int n = 0; n < 20; n++) {
            r.type(CLASS, 0, n % 2, n - 1);
            r.member(n, 0, 0, 0, PACKAGE, 0);
        }
        Due.same("nothing wrong", r.all(), 0);
        for (int by = 0; by < 20; by++) {
            for (int object = by; object < 20; object++) {
                Due.same("call(" + by + ", " + object + ")", r.call(by, object, 0, 0), object - (object - by) % 2);
            }
        }
        ClassRules s = new ClassRules();
        for (int n = 0; n < 20; n++) {
            s.type(CLASS, 0, n == 10 ? 0 : n % 2, n - 1);
            s.member(n, 0, 0, 0, n < 10 ? PACKAGE : PUBLIC, 0);
        }
        Due.same("the chain goes on by a public one", s.call(0, 19, 0, 0), 19);
        Due.same("of the other package", s.call(1, 10, 0, 0), 9);
        Due.same("and on", s.call(1, 12, 0, 0), 11 + 1);
    }

    private static void callAbstract() {
        ClassRules r = new ClassRules();
        r.type(CLASS, ABSTRACT, 0, -1);
        r.type(CLASS, ABSTRACT, 1, 0);
        r.type(CLASS, 0, 1, 1);
        r.member(0, 0, 0, ABSTRACT, PACKAGE, 0);
        r.member(2, 0, 0, 0, PUBLIC, 0);
        Due.same("nothing wrong", r.faults(2), 0);
        Due.same("the one meant is abstract and nobody takes its place", r.call(0, 2, 0, 0), NONE);
        Due.same("its own", r.call(2, 2, 0, 0), 1);
        Due.same("nothing is meant in between", r.call(1, 2, 0, 0), NONE);
        ClassRules s = new ClassRules();
        s.type(CLASS, 0, 0, -1);
        s.type(CLASS, ABSTRACT, 0, 0);
        s.type(CLASS, 0, 1, 1);
        s.member(0, 0, 0, 0, PACKAGE, 0);
        s.member(1, 0, 0, ABSTRACT, PACKAGE, 0);
        Due.same("an abstract one takes its place", s.call(0, 2, 0, 0), NONE);
        ClassRules t = new ClassRules();
        t.type(CLASS, 0, 0, -1);
        t.type(CLASS, 0, 1, 0);
        t.member(0, 0, 0, 0, PACKAGE, 0);
        t.member(1, 0, 0, STATIC, PACKAGE, 0);
        Due.same("nothing wrong with a static one", t.all(), 0);
        Due.same("a static one takes no place", t.call(0, 1, 0, 0), 0);
    }
}
