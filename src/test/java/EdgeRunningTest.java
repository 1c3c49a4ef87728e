/** "Terms", part 3: THE CLASS ONE, FACE ONES, ONES TO BE GIVEN, WHAT RUNS and a CALL. */
final class EdgeRunningTest extends Edges {
    public static void main(String[] args) {
        classOneTheFirst();
        classOneOfTwoTheLeast();
        classOneNotStatic();
        classOneShared();
        classOneOfAFace();
        faceOnesNotStaticNotPrivate();
        faceOnesOfFacesThatItIs();
        faceOnesOfTwoTheLeast();
        faceOnesNoneAbove();
        toBeGiven();
        whatRuns();
        meant();
        meantIsPrivate();
        meantIsOfAFace();
        upAlongParents();
        takesThePlace();
        takesThePlaceByAnother();
        whatIsFoundIsAbstract();
        Due.end();
    }

    private static void classOneTheFirst() {
        Run run = chain(20).member(0, 0, 0, 0, PUBLIC, 0);
        run.due("of the TYPE itself", 0, "runs", 0, 0, 0).due("19 steps up", 0, "runs", 19, 0, 0);
        run.member(19, 0, 0, 0, PUBLIC, 0).due("the first", 1, "runs", 19, 0, 0).due("not below", 0, "runs", 18, 0, 0);
        run.member(18, 0, 0, 0, PUBLIC, 0).due("still the first", 1, "runs", 19, 0, 0).due("here", 2, "runs", 18, 0, 0);
        run.due("with these NAME and PARAMS", NONE, "runs", 19, 0, 1).due("with these", NONE, "runs", 19, 1, 0);
        run.due("none", 0, "all");
    }

    /** Two in one TYPE are fault 10, and so only fault 16 tells which of them is THE CLASS ONE. */
    private static void classOneOfTwoTheLeast() {
        run().type(CLASS, 0, 0, -1).member(0, 0, 0, ABSTRACT, PUBLIC, 0).member(0, 0, 0, 0, PUBLIC, 0)
                .faults("the least is ABSTRACT", 0, 10, 1, 11, 0, 16, 0);
        run().type(CLASS, 0, 0, -1).member(0, 0, 0, 0, PUBLIC, 0).member(0, 0, 0, ABSTRACT, PUBLIC, 0)
                .faults("the least is not", 0, 10, 1, 11, 1);
        run().type(CLASS, 0, 0, -1).member(0, 0, 0, STATIC, PUBLIC, 0).member(0, 0, 0, ABSTRACT, PUBLIC, 0)
                .faults("the least that is not STATIC", 0, 10, 1, 11, 1, 16, 1);
        run().type(CLASS, ABSTRACT, 0, -1).type(CLASS, 0, 0, 0)
                .member(0, 0, 0, 0, PRIVATE, 0).member(0, 0, 0, ABSTRACT, PUBLIC, 0)
                .faults("the least that is SHARED", 1, 16, 1);
    }

    private static void classOneNotStatic() {
        plainTypes(1).member(0, 0, 0, STATIC, PUBLIC, 0).due("STATIC", NONE, "runs", 0, 0, 0);
        plainTypes(1).member(0, 0, 0, FINAL, PUBLIC, 0).due("not STATIC", 0, "runs", 0, 0, 0);
        Run run = run().type(CLASS, 0, 0, -1).type(CLASS, 0, 1, 0);
        run.member(0, 0, 0, 0, PACKAGE, 0).member(1, 0, 0, STATIC, PACKAGE, 0);
        run.due("nothing wrong", 0, "all").due("a STATIC one is passed", NONE, "runs", 1, 0, 0);
    }

    private static void classOneShared() {
        Run run = run().type(CLASS, 0, 0, -1).type(CLASS, 0, 1, 0).type(CLASS, 0, 0, 1);
        run.member(0, 0, 0, 0, PRIVATE, 0).member(0, 1, 0, 0, PACKAGE, 0);
        run.member(0, 2, 0, 0, PROTECTED, 0).member(0, 3, 0, 0, PUBLIC, 0);
        int[][] due = {{0, 1, 2, 3}, {NONE, NONE, 2, 3}, {NONE, 1, 2, 3}};
        for (int type = 0; type < 3; type++) {
            for (int access = 0; access < 4; access++) {
                run.due("access " + access, due[type][access], "runs", type, access, 0);
            }
        }
        run.member(1, 3, 0, 0, PRIVATE, 0).due("one not SHARED is passed on the way up", 3, "runs", 2, 3, 0);
        run.due("it is THE CLASS ONE of its own TYPE", 4, "runs", 1, 3, 0);
    }

    /** A FACE has no CLASS ONE: a CALL by one means its FACE ONES, never what is private or STATIC in it. */
    private static void classOneOfAFace() {
        Run run = run().type(FACE, 0, 0, -1).type(CLASS, 0, 0, -1).upper(1, 0);
        run.member(0, 0, 0, 0, PRIVATE, 0).member(1, 0, 0, 0, PUBLIC, 0);
        run.due("nothing wrong", 0, "all").due("private in the FACE is not MEANT", NONE, "call", 0, 1, 0, 0);
        run.due("by the CLASS", 1, "call", 1, 1, 0, 0);
        Run over = run().type(FACE, 0, 0, -1).type(FACE, 0, 0, -1).type(FACE, 0, 0, -1).type(CLASS, 0, 0, -1);
        over.upper(2, 0).upper(3, 2).member(0, 0, 0, DEFAULT, PUBLIC, 0).member(2, 0, 0, 0, PRIVATE, 0);
        over.due("private over a FACE ONE", 0, "all").due("the FACE ONE is MEANT, and runs", 0, "call", 2, 3, 0, 0);
        over.member(1, 0, 0, DEFAULT, PUBLIC, 0).upper(2, 1).faults("private settles no rivals", 2, 17, 0);
        over.member(2, 0, 0, DEFAULT, PUBLIC, 0).faults("one that is not private does", 2, 10, 3);
    }

    private static void faceOnesNotStaticNotPrivate() {
        Run run = run().type(FACE, 0, 0, -1).type(CLASS, 0, 0, -1).upper(1, 0);
        run.member(0, 0, 0, DEFAULT, PUBLIC, 0).member(0, 1, 0, STATIC, PUBLIC, 0).member(0, 2, 0, 0, PRIVATE, 0);
        run.due("DEFAULT", 0, "runs", 1, 0, 0).due("STATIC", NONE, "runs", 1, 1, 0);
        run.due("private", NONE, "runs", 1, 2, 0);
        run.due("other PARAMS", NONE, "runs", 1, 0, 1).due("nothing wrong", 0, "all");
    }

    private static void faceOnesOfFacesThatItIs() {
        Run run = run().type(FACE, 0, 0, -1).type(FACE, 0, 1, -1).type(CLASS, 0, 2, -1).type(CLASS, 0, 3, 2);
        run.member(0, 0, 0, DEFAULT, PUBLIC, 0).due("of none", NONE, "runs", 3, 0, 0);
        run.upper(1, 0).due("of none still", NONE, "runs", 3, 0, 0);
        run.upper(2, 1).due("of a FACE of a FACE of its PARENT", 0, "runs", 3, 0, 0);
        run.due("nothing wrong", 0, "all");
        Run far = run();
        for (int n = 0; n < 19; n++) {
            far.type(FACE, 0, 0, -1);
        }
        far.type(RECORD, 0, 0, -1).upper(19, 18).member(0, 0, 0, DEFAULT, PUBLIC, 0);
        for (int n = 1; n < 18; n++) {
            far.upper(n, n - 1);
        }
        far.due("one step is missing", NONE, "runs", 19, 0, 0).upper(18, 17).due("19 steps", 0, "runs", 19, 0, 0);
    }

    /** Two in one FACE are fault 10 of that FACE; what is below it still has its own faults. */
    private static void faceOnesOfTwoTheLeast() {
        Run run = run().type(FACE, 0, 0, -1).type(CLASS, 0, 0, -1).upper(1, 0);
        run.member(0, 0, 0, DEFAULT, PUBLIC, 0).member(0, 0, 0, DEFAULT, PUBLIC, 0);
        run.faults("the two are one FACE ONE", 1).faults("the FACE's own fault", 0, 10, 1);
        run().type(FACE, 0, 0, -1).type(CLASS, 0, 0, -1).upper(1, 0)
                .member(0, 0, 0, ABSTRACT, PUBLIC, 0).member(0, 0, 0, DEFAULT, PUBLIC, 0)
                .faults("the least is ABSTRACT", 1, 16, 0);
        run().type(FACE, 0, 0, -1).type(CLASS, 0, 0, -1).upper(1, 0)
                .member(0, 0, 0, DEFAULT, PUBLIC, 0).member(0, 0, 0, ABSTRACT, PUBLIC, 0)
                .faults("the least is DEFAULT", 1);
        run().type(FACE, 0, 0, -1).type(CLASS, 0, 0, -1).upper(1, 0)
                .member(0, 0, 0, STATIC, PUBLIC, 0).member(0, 0, 0, 0, PRIVATE, 0).member(0, 0, 0, ABSTRACT, PUBLIC, 0)
                .faults("the least of those that count", 1, 16, 2);
    }

    private static void faceOnesNoneAbove() {
        Run run = run().type(FACE, 0, 0, -1).type(FACE, 0, 0, -1).type(FACE, 0, 0, -1).type(CLASS, 0, 0, -1);
        run.upper(1, 0).upper(2, 1).upper(3, 0).upper(3, 2).member(0, 0, 0, DEFAULT, PUBLIC, 0);
        run.due("the others have none", 0, "runs", 3, 0, 0);
        run.member(2, 0, 1, DEFAULT, PUBLIC, 0).due("nor such a one", 0, "runs", 3, 0, 0);
        Run again = run().type(FACE, 0, 0, -1).type(FACE, 0, 0, -1).type(FACE, 0, 0, -1).type(CLASS, 0, 0, -1);
        again.upper(1, 0).upper(2, 1).upper(3, 0).upper(3, 2).member(0, 0, 0, DEFAULT, PUBLIC, 0);
        again.member(2, 0, 0, DEFAULT, PUBLIC, 0).due("of one two steps below", 1, "runs", 3, 0, 0);
        again.member(1, 0, 0, DEFAULT, PUBLIC, 0).due("and with one between", 1, "runs", 3, 0, 0);
        again.type(CLASS, 0, 0, -1).upper(4, 0).due("another TYPE IS not that FACE", 0, "runs", 4, 0, 0);
        again.upper(4, 1).due("IS the one between", 2, "runs", 4, 0, 0).due("nothing wrong", 0, "all");
        Run classes = run().type(FACE, 0, 0, -1).type(CLASS, ABSTRACT, 0, -1).type(CLASS, 0, 1, 1).upper(1, 0);
        classes.member(0, 0, 0, DEFAULT, PUBLIC, 0).due("a CLASS between", 0, "runs", 2, 0, 0);
    }

    private static void toBeGiven() {
        Run run = run().type(FACE, 0, 0, -1).type(FACE, 0, 0, -1).type(CLASS, ABSTRACT, 0, -1).type(CLASS, 0, 0, 2);
        run.upper(3, 0).upper(3, 1).member(0, 0, 0, ABSTRACT, PUBLIC, 0).faults("a FACE ONE", 3, 16, 0);
        run.member(1, 0, 0, ABSTRACT, PUBLIC, 0).faults("two FACE ONES", 3, 16, 0);
        run.member(2, 0, 0, ABSTRACT, PUBLIC, 0).faults("THE CLASS ONE goes before them", 3, 16, 2);
        run.member(3, 0, 0, 0, PUBLIC, 0).faults("given", 3);
        Run some = run().type(FACE, 0, 0, -1).type(FACE, 0, 0, -1).type(CLASS, 0, 0, -1).upper(2, 0).upper(2, 1);
        some.member(0, 0, 0, ABSTRACT, PUBLIC, 0).member(1, 0, 0, DEFAULT, PUBLIC, 0);
        some.faults("one is DEFAULT: none to be given", 2, 17, 0);
        Run odd = run().type(FACE, 0, 0, -1).type(CLASS, 0, 0, -1).upper(1, 0).member(0, 0, 0, 0, PUBLIC, 0);
        odd.faults("neither ABSTRACT nor DEFAULT", 1).faults("that is the FACE's fault", 0, 11, 0);
        Run both = run().type(FACE, 0, 0, -1).type(CLASS, 0, 0, -1).upper(1, 0);
        both.member(0, 0, 0, ABSTRACT | DEFAULT, PUBLIC, 0).faults("both", 1).faults("the FACE's fault", 0, 11, 0);
    }

    private static void whatRuns() {
        Run run = run().type(FACE, 0, 0, -1).type(CLASS, 0, 0, -1).type(CLASS, 0, 0, 1).upper(2, 0);
        run.due("neither", NONE, "runs", 2, 0, 0);
        run.member(0, 0, 0, DEFAULT, PUBLIC, 0).due("the FACE ONE", 0, "runs", 2, 0, 0);
        run.member(1, 0, 0, 0, PUBLIC, 0).due("THE CLASS ONE before it", 1, "runs", 2, 0, 0);
        Run passed = run().type(CLASS, ABSTRACT, 0, -1).type(CLASS, 0, 1, 0).member(0, 0, 0, ABSTRACT, PACKAGE, 0);
        passed.due("an ABSTRACT one that is not SHARED", NONE, "runs", 1, 0, 0).due("nothing wrong", 0, "all");
    }

    private static void meant() {
        Run run = run().type(FACE, 0, 0, -1).type(CLASS, ABSTRACT, 0, -1).upper(1, 0).type(CLASS, 0, 0, 1);
        run.member(2, 0, 0, 0, PUBLIC, 0).due("nothing for the FACE", NONE, "call", 0, 2, 0, 0);
        run.due("nothing for the CLASS", NONE, "call", 1, 2, 0, 0).due("its own", 0, "call", 2, 2, 0, 0);
        run.member(0, 0, 0, ABSTRACT, PUBLIC, 0).due("a FACE ONE for the FACE", 0, "call", 0, 2, 0, 0);
        run.due("and for the CLASS", 0, "call", 1, 2, 0, 0);
        run.member(1, 0, 0, ABSTRACT, PUBLIC, 0).due("THE CLASS ONE", 0, "call", 1, 2, 0, 0);
        Run beside = plainTypes(1).member(0, 0, 0, 0, PRIVATE, 0).type(FACE, 0, 0, -1).type(CLASS, 0, 0, -1);
        beside.upper(2, 1).member(1, 0, 0, DEFAULT, PUBLIC, 0).due("just one FACE ONE", 1, "call", 1, 2, 0, 0);
        Run statics = chain(2).member(0, 0, 0, STATIC, PUBLIC, 0);
        statics.due("a STATIC one is not MEANT", NONE, "call", 0, 1, 0, 0);
        Run params = chain(2).member(0, 0, 0, 0, PUBLIC, 0).member(1, 0, 1, 0, PUBLIC, 0);
        params.due("with these PARAMS alone", 0, "call", 0, 1, 0, 0).due("none with those", NONE, "call", 0, 1, 0, 1);
    }

    private static void meantIsPrivate() {
        Run run = chain(3).member(0, 0, 0, 0, PRIVATE, 0).member(1, 0, 0, 0, PUBLIC, 0).member(2, 0, 0, 0, PUBLIC, 0);
        for (int object = 0; object < 3; object++) {
            run.due("private: it", 0, "call", 0, object, 0, 0);
        }
        run.due("one that is not", 2, "call", 1, 2, 0, 0);
        Run near = chain(3).member(0, 0, 0, 0, PACKAGE, 0).member(1, 0, 0, 0, PUBLIC, 0).member(2, 0, 0, 0, PUBLIC, 0);
        near.due("not private: of the package", 2, "call", 0, 2, 0, 0).due("one step", 1, "call", 0, 1, 0, 0);
    }

    private static void meantIsOfAFace() {
        Run run = run().type(FACE, 0, 0, -1).type(FACE, 0, 0, -1).upper(1, 0).type(CLASS, 0, 0, -1).upper(2, 0);
        run.type(CLASS, 0, 0, 2).upper(3, 1).type(CLASS, 0, 0, 3);
        run.member(0, 0, 0, DEFAULT, PUBLIC, 0).member(1, 0, 0, DEFAULT, PUBLIC, 0);
        run.due("WHAT RUNS on the object", 0, "call", 0, 2, 0, 0).due("on one below", 1, "call", 0, 3, 0, 0);
        run.due("MEANT by a CLASS", 1, "call", 2, 3, 0, 0).due("and two steps below", 1, "call", 2, 4, 0, 0);
        run.member(4, 0, 0, 0, PUBLIC, 0).due("THE CLASS ONE of the object", 2, "call", 0, 4, 0, 0);
        run.due("MEANT by a CLASS", 2, "call", 2, 4, 0, 0).due("nothing wrong", 0, "all");
        Run hidden = run().type(FACE, 0, 0, -1).type(CLASS, 0, 0, -1).upper(1, 0).type(CLASS, 0, 0, 1);
        hidden.member(0, 0, 0, DEFAULT, PUBLIC, 0).member(2, 0, 0, 0, PRIVATE, 0);
        hidden.due("a private CLASS ONE of the object runs", 1, "call", 0, 2, 0, 0);
        hidden.due("on one above", 0, "call", 0, 1, 0, 0);
    }

    private static void upAlongParents() {
        Run run = chain(20).member(0, 0, 0, 0, PUBLIC, 0);
        run.due("19 steps up, the one MEANT", 0, "call", 0, 19, 0, 0).due("MEANT from below", 0, "call", 19, 19, 0, 0);
        run.member(19, 0, 0, 0, PUBLIC, 0).due("of the object's TYPE", 1, "call", 0, 19, 0, 0);
        run.due("not below the object's TYPE", 0, "call", 0, 18, 0, 0);
        run.member(10, 0, 0, 0, PUBLIC, 0).due("the first", 1, "call", 0, 19, 0, 0).due("here", 2, "call", 0, 18, 0, 0);
        run.due("its own", 2, "call", 0, 10, 0, 0).due("one step above", 0, "call", 0, 9, 0, 0);
    }

    private static void takes(String what, boolean due, int access, int pack, int marks, int ownAccess) {
        Run run = run().type(CLASS, 0, 0, -1).type(CLASS, 0, pack, 0);
        run.member(0, 0, 0, 0, access, 0).member(1, 0, 0, marks, ownAccess, 0);
        run.due(what + ": nothing wrong", 0, "all").due(what, due ? 1 : 0, "call", 0, 1, 0, 0);
    }

    private static void takesThePlace() {
        takes("public", true, PUBLIC, 1, 0, PUBLIC);
        takes("protected", true, PROTECTED, 1, 0, PROTECTED);
        takes("FINAL ones do", true, PUBLIC, 1, FINAL, PUBLIC);
        takes("package, one PACKAGE", true, PACKAGE, 0, 0, PACKAGE);
        takes("package, another PACKAGE", false, PACKAGE, 1, 0, PACKAGE);
        takes("package, another PACKAGE, public", false, PACKAGE, 1, 0, PUBLIC);
        takes("private ones take no place", false, PUBLIC, 0, 0, PRIVATE);
        takes("STATIC ones take no place", false, PACKAGE, 1, STATIC, PACKAGE);
        Run like = chain(2).member(0, 0, 0, 0, PUBLIC, 0).member(1, 0, 1, 0, PUBLIC, 0).member(1, 1, 0, 0, PUBLIC, 0);
        like.due("only one LIKE it", 0, "call", 0, 1, 0, 0);
        for (int kind : new int[] {ENUM, RECORD}) {
            Run own = run().type(kind, 0, 0, -1).member(0, 0, 0, 0, PUBLIC, 0);
            own.due("the one MEANT in kind " + kind, 0, "call", 0, 0, 0, 0);
        }
    }

    private static void takesThePlaceByAnother() {
        Run run = run().type(CLASS, 0, 0, -1).type(CLASS, 0, 0, 0).type(CLASS, 0, 1, 1);
        run.member(0, 0, 0, 0, PACKAGE, 0).member(2, 0, 0, 0, PUBLIC, 0);
        run.due("nobody between", 0, "call", 0, 2, 0, 0);
        run.member(1, 0, 0, 0, PACKAGE, 0).due("one between, of the package", 2, "call", 0, 2, 0, 0);
        Run by = run().type(CLASS, 0, 0, -1).type(CLASS, 0, 0, 0).type(CLASS, 0, 1, 1).type(CLASS, 0, 2, 2);
        by.member(0, 0, 0, 0, PACKAGE, 0).member(1, 0, 0, 0, PROTECTED, 0).member(2, 0, 0, 0, PUBLIC, 0);
        by.due("one between, protected", 2, "call", 0, 2, 0, 0).due("from below that", 2, "call", 0, 3, 0, 0);
        by.member(3, 0, 0, 0, PUBLIC, 0).due("by two between", 3, "call", 0, 3, 0, 0);
        by.due("nothing wrong", 0, "all");
        Run other = run().type(CLASS, 0, 0, -1).type(CLASS, 0, 1, 0).type(CLASS, 0, 2, 1);
        other.member(0, 0, 0, 0, PACKAGE, 0).member(1, 0, 0, 0, PUBLIC, 0).member(2, 0, 0, 0, PUBLIC, 0);
        other.due("one between that takes not its place", 0, "call", 0, 2, 0, 0);
        other.due("but the one below takes the place of that", 2, "call", 1, 2, 0, 0);
        Run late = run().type(CLASS, 0, 0, -1).type(CLASS, 0, 1, 0).type(CLASS, 0, 0, 1).type(CLASS, 0, 1, 2);
        late.member(0, 0, 0, 0, PACKAGE, 0).member(1, 0, 0, 0, PACKAGE, 0);
        late.member(2, 0, 0, 0, PACKAGE, 0).member(3, 0, 0, 0, PACKAGE, 0);
        late.due("one PACKAGE across another", 2, "call", 0, 3, 0, 0).due("and so the other", 3, "call", 1, 3, 0, 0);
    }

    private static void whatIsFoundIsAbstract() {
        Run run = run().type(CLASS, ABSTRACT, 0, -1).type(CLASS, 0, 1, 0).member(0, 0, 0, ABSTRACT, PACKAGE, 0);
        run.due("the one MEANT is ABSTRACT", NONE, "call", 0, 1, 0, 0).due("nothing wrong", 0, "all");
        run.member(1, 0, 0, 0, PUBLIC, 0).due("nobody takes its place", NONE, "call", 0, 1, 0, 0);
        run.due("what runs is another matter", 1, "runs", 1, 0, 0);
        Run given = run().type(CLASS, ABSTRACT, 0, -1).type(CLASS, 0, 0, 0).member(0, 0, 0, ABSTRACT, PACKAGE, 0);
        given.member(1, 0, 0, 0, PACKAGE, 0).due("one takes its place", 1, "call", 0, 1, 0, 0);
        Run taken = run().type(CLASS, 0, 0, -1).type(CLASS, ABSTRACT, 0, 0).type(CLASS, 0, 1, 1);
        taken.member(0, 0, 0, 0, PACKAGE, 0).due("not ABSTRACT", 0, "call", 0, 2, 0, 0);
        taken.member(1, 0, 0, ABSTRACT, PACKAGE, 0).due("what takes its place is", NONE, "call", 0, 2, 0, 0);
        taken.due("nothing wrong", 0, "all");
    }
}
