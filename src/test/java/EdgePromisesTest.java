import java.util.Arrays;

/** Promises 1 to 12: the least and the greatest value of each argument, and what lies just outside. */
final class EdgePromisesTest extends Edges {
    /** Among them such as come to a good value if only their last bits are looked at. */
    private static final int[] FAR = {Integer.MIN_VALUE, Integer.MIN_VALUE + 1, -65536, -256, -80, -32, -20, -10, -5,
        -4, -3, -2, 32, 64, 80, 128, 256, 65536, 1 << 20, 1 << 24, 1 << 30, Integer.MAX_VALUE - 1, Integer.MAX_VALUE};

    public static void main(String[] args) {
        promise1NoTypesNoMembers();
        promise2Type();
        promise2Full();
        promise3Upper();
        promise3Full();
        promise4Permit();
        promise4Full();
        promise5Member();
        promise5Full();
        promise6Faults();
        promise7Fault();
        promise7NoneSuch();
        promise8All();
        promise9Is();
        promise10Runs();
        promise10Wrong();
        promise11Call();
        promise11Wrong();
        promise12Told();
        Due.end();
    }

    /** Its least and greatest value are taken with these answers; one less, one more and far ones are BAD. */
    private static void argument(Run run, int at, int least, int greatest, int[] due, String name, int... good) {
        String what = name + ", argument " + at;
        run.due(what + ", the least", due[0], name, with(good, at, least));
        run.due(what + ", the greatest", due[1], name, with(good, at, greatest));
        run.refuses(what + ", one less", BAD, name, with(good, at, least - 1));
        run.refuses(what + ", one more", BAD, name, with(good, at, greatest + 1));
        for (int far : FAR) {
            if (far < least || far > greatest) {
                run.due(what + ", far", BAD, name, with(good, at, far));
            }
        }
        run.leavesAsItWas(what + ", the least of all", name, with(good, at, Integer.MIN_VALUE));
        run.leavesAsItWas(what + ", the greatest of all", name, with(good, at, Integer.MAX_VALUE));
    }

    private static int[] with(int[] good, int at, int value) {
        int[] changed = Arrays.copyOf(good, good.length);
        changed[at] = value;
        return changed;
    }

    private static int[] both(int due) {
        return new int[] {due, due};
    }

    /** Where no TYPE is there, each number of one is BAD. */
    private static void noneThere(Run run, int at, String name, int... good) {
        for (int type : new int[] {-1, 0, 1, 19, 20}) {
            run.refuses(name + " without TYPES, argument " + at, BAD, name, with(good, at, type));
        }
    }

    private static void promise1NoTypesNoMembers() {
        Run empty = run();
        empty.due("TYPES", 0, "told", 0).due("MEMBERS", 0, "told", 1).due("FAULTS", 0, "all");
        noneThere(empty, 0, "upper", 0, 0);
        noneThere(empty, 0, "permit", 0, 0);
        noneThere(empty, 0, "member", 0, 0, 0, 0, 0, 0);
        noneThere(empty, 0, "faults", 0);
        noneThere(empty, 0, "fault", 0, 0, 0);
        noneThere(empty, 0, "is", 0, 0);
        noneThere(empty, 1, "is", 0, 0);
        noneThere(empty, 0, "runs", 0, 0, 0);
        noneThere(empty, 0, "call", 0, 0, 0, 0);
        noneThere(empty, 1, "call", 0, 0, 0, 0);
        ClassRules one = plainTypes(3).member(0, 0, 0, 0, 0, 0).play();
        ClassRules other = new ClassRules();
        Due.same("a new object beside one that is used: TYPES", other.told(0), 0);
        Due.same("a new object beside one that is used: MEMBERS", other.told(1), 0);
        Due.same("the used one", one.told(0) + one.told(1), 4);
    }

    private static void promise2Type() {
        for (int there : new int[] {0, 1, 19}) {
            Run run = plainTypes(there);
            argument(run, 0, 0, 3, both(there), "type", 0, 0, 0, -1);
            argument(run, 1, 0, 15, both(there), "type", 0, 0, 0, -1);
            argument(run, 2, 0, 3, both(there), "type", 0, 0, 0, -1);
            argument(run, 3, -1, 19, both(there), "type", 0, 0, 0, -1);
            run.due("all at their least", there, "type", 0, 0, 0, -1);
            run.due("all at their greatest", there, "type", 3, 15, 3, 19);
        }
        for (int value = 0; value < 20; value++) {
            run().due("each parent", 0, "type", 0, 0, 0, value);
            run().due("each of the marks", value < 16 ? 0 : BAD, "type", 0, value, 0, -1);
            run().due("each kind", value < 4 ? 0 : BAD, "type", value, 0, 0, -1);
            run().due("each package", value < 4 ? 0 : BAD, "type", 0, 0, value, -1);
        }
    }

    private static void promise2Full() {
        plainTypes(19).due("the last that has room", 19, "type", 0, 0, 0, -1);
        for (Run full : new Run[] {plainTypes(20), fullRun()}) {
            full.refuses("one TYPE more", FULL, "type", 0, 0, 0, -1);
            full.refuses("one TYPE more, all at their greatest", FULL, "type", 3, 15, 3, 19);
            argument(full, 0, 0, 3, both(FULL), "type", 0, 0, 0, -1);
            argument(full, 1, 0, 15, both(FULL), "type", 0, 0, 0, -1);
            argument(full, 2, 0, 3, both(FULL), "type", 0, 0, 0, -1);
            argument(full, 3, -1, 19, both(FULL), "type", 0, 0, 0, -1);
        }
    }

    /** Of upper and of permit: the one is told as the other is. */
    private static void naming(String name) {
        for (int there : new int[] {1, 2, 19, 20}) {
            Run run = plainTypes(there);
            argument(run, 0, 0, there - 1, both(1), name, 0, 0);
            argument(run, 1, 0, 19, both(1), name, there - 1, 0);
        }
        for (int other = 0; other < 20; other++) {
            plainTypes(1).due("each one, there or not", 1, name, 0, other);
        }
    }

    private static void namingFull(String name, String otherName) {
        for (int type : new int[] {0, 19}) {
            Run run = plainTypes(20);
            run.due("none yet", 1, name, type, 7);
            run.then(name, type, 7).due("one", 2, name, type, 8).due("the same again", 2, name, type, 7);
            run.then(name, type, 7).due("two", 3, name, type, 9);
            run.then(name, type, 7).refuses("three: FULL", FULL, name, type, 10).refuses("same", FULL, name, type, 7);
            argument(run, 1, 0, 19, both(FULL), name, type, 0);
            run.due("another type has room", 1, name, 10, 7).due("there is room for the other", 1, otherName, type, 7);
        }
        Run missing = plainTypes(1).then(name, 0, 19).then(name, 0, 18).then(name, 0, 17);
        missing.refuses("those that are not there count too", FULL, name, 0, 0);
        missing.refuses("the type is BAD before it is FULL", BAD, name, 1, 0);
    }

    private static void promise3Upper() {
        naming("upper");
    }

    private static void promise3Full() {
        namingFull("upper", "permit");
    }

    private static void promise4Permit() {
        naming("permit");
    }

    private static void promise4Full() {
        namingFull("permit", "upper");
    }

    private static void memberArguments(Run run, int types, int due) {
        int[] greatest = {types - 1, 9, 4, 15, 3, 29};
        for (int at = 0; at < 6; at++) {
            argument(run, at, 0, greatest[at], both(due), "member", 0, 0, 0, 0, 0, 0);
        }
        run.due("all at their greatest", due, "member", greatest);
        run.due("all at their least", due, "member", 0, 0, 0, 0, 0, 0);
    }

    private static void promise5Member() {
        memberArguments(plainTypes(1), 1, 0);
        memberArguments(plainTypes(2).member(1, 0, 0, 0, 0, 0), 2, 1);
        memberArguments(plainTypes(20), 20, 0);
        for (int value = 0; value < 31; value++) {
            Run one = plainTypes(1);
            one.due("each name", value < 10 ? 0 : BAD, "member", 0, value, 0, 0, 0, 0);
            one.due("each of the params", value < 5 ? 0 : BAD, "member", 0, 0, value, 0, 0, 0);
            one.due("each of the marks", value < 16 ? 0 : BAD, "member", 0, 0, 0, value, 0, 0);
            one.due("each access", value < 4 ? 0 : BAD, "member", 0, 0, 0, 0, value, 0);
            one.due("each result, its TYPE there or not", value < 30 ? 0 : BAD, "member", 0, 0, 0, 0, 0, value);
        }
    }

    private static Run withMembers(int types, int members) {
        Run run = plainTypes(types);
        for (int n = 0; n < members; n++) {
            run.member(n % types, n / types % 10, n % 5, 0, PUBLIC, 0);
        }
        return run;
    }

    private static void promise5Full() {
        withMembers(20, 79).due("the last that has room", 79, "member", 0, 0, 0, 0, 0, 0);
        memberArguments(withMembers(20, 79), 20, 79);
        memberArguments(withMembers(20, 80), 20, FULL);
        memberArguments(withMembers(1, 80), 1, FULL);
        withMembers(20, 80).refuses("one MEMBER more", FULL, "member", 19, 9, 4, 0, 3, 0);
        fullRun().refuses("one MEMBER more", FULL, "member", 19, 9, 4, 0, 3, 0);
        fullRun().due("nothing is wrong with the full one", 0, "all");
        fullRun().due("its TYPES", 20, "told", 0).due("its MEMBERS", 80, "told", 1);
        withMembers(1, 80).due("TYPES have room", 1, "type", 0, 0, 0, -1);
        plainTypes(20).due("MEMBERS have room", 0, "member", 19, 0, 0, 0, 0, 0);
    }

    private static void promise6Faults() {
        for (int there : new int[] {1, 2, 19, 20}) {
            argument(plainTypes(there), 0, 0, there - 1, both(0), "faults", 0);
        }
        Run wrong = run().type(CLASS, ABSTRACT | FINAL, 0, -1).type(CLASS, 0, 0, -1).type(CLASS, OPEN | FINAL, 0, -1);
        argument(wrong, 0, 0, 2, new int[] {1, 2}, "faults", 0);
        wrong.due("none", 0, "faults", 1);
        wrong.leavesAsItWas("asking", "faults", 0).leavesAsItWas("asking", "faults", 2);
    }

    /** As many faults as a TYPE can have: 79 members LIKE one another, each with the faults 10 to 15. */
    private static Run manyFaults() {
        Run run = chain(2).member(0, 0, 0, FINAL, PUBLIC, 0);
        for (int n = 1; n < MEMBERS; n++) {
            run.member(1, 0, 0, STATIC | DEFAULT, PACKAGE, 1);
        }
        return run;
    }

    private static void promise7Fault() {
        Run wrong = run().type(CLASS, OPEN | FINAL, 0, -1).type(CLASS, 0, 0, 0);
        argument(wrong, 0, 0, 1, new int[] {5, 4}, "fault", 0, 0, 0);
        argument(wrong, 1, 0, 1, new int[] {5, 6}, "fault", 0, 0, 0);
        argument(wrong, 2, 0, 1, new int[] {6, 0}, "fault", 0, 1, 0);
        Run many = manyFaults();
        argument(many, 1, 0, 78 + 5 * 79 - 1, new int[] {10, 15}, "fault", 1, 0, 0);
        argument(many, 1, 0, 78 + 5 * 79 - 1, new int[] {2, 79}, "fault", 1, 0, 1);
        argument(many, 2, 0, 1, new int[] {15, 79}, "fault", 1, 472, 0);
        int k = 0;
        for (int kind = 10; kind <= 15; kind++) {
            for (int number = kind == 10 ? 2 : 1; number < MEMBERS; number++) {
                if (number <= 2 || number >= 62 && number <= 65 || number == 79) {
                    many.due("kind of fault " + k, kind, "fault", 1, k, 0).due("its number", number, "fault", 1, k, 1);
                }
                k++;
            }
        }
    }

    private static void promise7NoneSuch() {
        plainTypes(1).refuses("no FAULT at all", BAD, "fault", 0, 0, 0).refuses("nor a number", BAD, "fault", 0, 0, 1);
        Run one = run().type(CLASS, ABSTRACT | FINAL, 0, -1).type(CLASS, 0, 0, -1);
        one.due("just one", 5, "fault", 0, 0, 0).refuses("no second one", BAD, "fault", 0, 1, 0);
        one.refuses("none of another TYPE", BAD, "fault", 1, 0, 0);
        one.refuses("all of them wrong", BAD, "fault", 2, 1, 2);
    }

    private static void promise8All() {
        run().due("without TYPES", 0, "all");
        for (int there : new int[] {1, 20}) {
            plainTypes(there).due("without FAULTS", 0, "all").leavesAsItWas("asking", "all");
        }
        Run run = run();
        for (int n = 0; n < TYPES; n++) {
            run.type(CLASS, ABSTRACT | FINAL, 0, -1);
            run.due("one of each TYPE", n + 1, "all");
        }
        manyFaults().due("as many as one has", 473, "all");
        fullRun().due("all rows full", 0, "all").leavesAsItWas("asking", "all");
        Run last = plainTypes(19).type(CLASS, ABSTRACT | FINAL, 0, -1);
        last.due("of the last TYPE alone", 1, "all");
    }

    private static void promise9Is() {
        for (int there : new int[] {1, 2, 19, 20}) {
            Run run = chain(there);
            argument(run, 0, 0, there - 1, both(1), "is", 0, 0);
            argument(run, 1, 0, there - 1, both(1), "is", there - 1, 0);
            argument(run, 1, 0, there - 1, new int[] {1, there == 1 ? 1 : 0}, "is", 0, 0);
            run.leavesAsItWas("asking", "is", there - 1, 0);
        }
        Run names = plainTypes(1).type(CLASS, 0, 0, 2).upper(1, 19);
        names.refuses("its PARENT, not there", BAD, "is", 1, 2).refuses("its UPPER, not there", BAD, "is", 1, 19);
        names.refuses("both not there", BAD, "is", 2, 2);
    }

    /** A chain whose first TYPE has the MEMBERS 0 to 3: the least and the greatest NAME and PARAMS. */
    private static Run cornersOf(int types) {
        Run run = chain(types).member(0, 0, 0, 0, PUBLIC, 0).member(0, 9, 0, 0, PUBLIC, 0);
        return run.member(0, 0, 4, 0, PUBLIC, 0).member(0, 9, 4, 0, PUBLIC, 0);
    }

    private static void promise10Runs() {
        for (int there : new int[] {1, 2, 19, 20}) {
            Run run = cornersOf(there);
            argument(run, 0, 0, there - 1, both(0), "runs", 0, 0, 0);
            argument(run, 0, 0, there - 1, both(3), "runs", 0, 9, 4);
            argument(run, 1, 0, 9, new int[] {0, 1}, "runs", there - 1, 0, 0);
            argument(run, 2, 0, 4, new int[] {0, 2}, "runs", there - 1, 0, 0);
        }
        Run run = cornersOf(2);
        run.refuses("NONE: no such name", NONE, "runs", 1, 8, 0).refuses("NONE: no such params", NONE, "runs", 1, 0, 3);
        run.refuses("a MEMBER", 0, "runs", 1, 0, 0);
        Run face = cornersOf(1).type(FACE, 0, 0, -1).type(CLASS, ABSTRACT, 0, -1);
        face.refuses("BAD before WRONG: name", BAD, "runs", 1, 10, 0);
        face.refuses("BAD before WRONG: params", BAD, "runs", 2, 0, 5);
        face.refuses("WRONG before NONE", WRONG, "runs", 1, 5, 3).refuses("WRONG before NONE", WRONG, "runs", 2, 5, 3);
    }

    private static void promise10Wrong() {
        Run run = run().type(FACE, 0, 0, -1).type(CLASS, ABSTRACT, 0, -1).upper(1, 0).type(CLASS, 0, 0, 1);
        run.member(1, 0, 0, 0, PUBLIC, 0);
        run.refuses("it is a FACE", WRONG, "runs", 0, 0, 0).refuses("it is ABSTRACT", WRONG, "runs", 1, 0, 0);
        run.due("a FACE and an ABSTRACT one ABOVE it", 0, "runs", 2, 0, 0);
        for (int top : new int[] {0, 9, 19}) {
            Run chain = chain(20).member(0, 0, 0, 0, PUBLIC, 0).member(top, 1, 0, 0, PUBLIC, 0);
            chain.due("no FAULT yet", 0, "runs", 19, 0, 0);
            chain.member(top, 1, 0, 0, PUBLIC, 0);
            chain.refuses("one " + (19 - top) + " steps ABOVE it has a FAULT", WRONG, "runs", 19, 0, 0);
            chain.refuses("it has a FAULT", WRONG, "runs", top, 0, 0);
            if (top > 0) {
                chain.due("one below it has a FAULT", 0, "runs", top - 1, 0, 0);
            }
        }
        Run beside = chain(2).member(0, 0, 0, 0, PUBLIC, 0).type(CLASS, ABSTRACT | FINAL, 0, -1).permit(2, 1);
        beside.due("one that is not ABOVE it has a FAULT", 0, "runs", 1, 0, 0);
        Run upper = run().type(CLASS, 0, 0, -1).type(FACE, 0, 0, -1).type(FACE, 0, 0, -1).upper(1, 2).upper(0, 1);
        upper.due("two FACES ABOVE it", NONE, "runs", 0, 0, 0);
        upper.member(2, 0, 0, 0, PUBLIC, 0);
        upper.refuses("the FACE of its FACE has a FAULT", WRONG, "runs", 0, 0, 0);
        Run enumOne = run().type(ENUM, 0, 0, -1).type(RECORD, 0, 0, -1).type(ENUM, ABSTRACT, 0, -1);
        enumOne.due("an ENUM", NONE, "runs", 0, 0, 0).due("a RECORD", NONE, "runs", 1, 0, 0);
        enumOne.refuses("an ABSTRACT ENUM", WRONG, "runs", 2, 0, 0);
    }

    private static void promise11Call() {
        for (int there : new int[] {1, 2, 19, 20}) {
            Run run = cornersOf(there);
            argument(run, 0, 0, there - 1, both(0), "call", 0, there - 1, 0, 0);
            argument(run, 1, 0, there - 1, both(0), "call", 0, 0, 0, 0);
            argument(run, 2, 0, 9, new int[] {0, 1}, "call", 0, there - 1, 0, 0);
            argument(run, 3, 0, 4, new int[] {0, 2}, "call", 0, there - 1, 0, 0);
            run.due("all at their greatest", 3, "call", there - 1, there - 1, 9, 4);
        }
        Run run = cornersOf(2);
        run.refuses("NONE: nothing is MEANT", NONE, "call", 0, 1, 8, 0).refuses("nothing", NONE, "call", 1, 1, 0, 3);
        run.refuses("a MEMBER", 0, "call", 0, 1, 0, 0);
        run.refuses("BAD before WRONG: name", BAD, "call", 1, 0, 10, 0);
        run.refuses("BAD before WRONG: params", BAD, "call", 1, 0, 0, 5);
        run.refuses("WRONG before NONE", WRONG, "call", 1, 0, 8, 3);
        run.member(1, 8, 0, 0, PUBLIC, 0);
        run.refuses("NONE: MEANT by the object's TYPE alone", NONE, "call", 0, 1, 8, 0);
        run.due("by the object's TYPE", 4, "call", 1, 1, 8, 0);
    }

    private static void promise11Wrong() {
        Run run = run().type(FACE, 0, 0, -1).type(CLASS, ABSTRACT, 0, -1).upper(1, 0).type(CLASS, 0, 0, 1);
        run.type(CLASS, 0, 0, 2).type(CLASS, 0, 0, -1).member(1, 0, 0, 0, PUBLIC, 0);
        run.refuses("the object's TYPE is a FACE", WRONG, "call", 0, 0, 0, 0);
        run.refuses("the object's TYPE is ABSTRACT", WRONG, "call", 1, 1, 0, 0);
        run.due("by an ABSTRACT one", 0, "call", 1, 2, 0, 0).due("by a FACE", NONE, "call", 0, 2, 0, 0);
        run.due("it IS the first one, being itself", 0, "call", 2, 2, 0, 0);
        run.due("it IS the first one, one step ABOVE", 0, "call", 2, 3, 0, 0);
        run.refuses("it IS not the first one, which is one step below", WRONG, "call", 3, 2, 0, 0);
        run.refuses("it IS not the first one, which is beside it", WRONG, "call", 4, 2, 0, 0);
        run.member(3, 1, 0, DEFAULT, PUBLIC, 0);
        run.refuses("the object's TYPE has a FAULT", WRONG, "call", 2, 3, 0, 0);
        run.due("one below the object's TYPE has", 0, "call", 1, 2, 0, 0);
        run.member(0, 1, 0, 0, PUBLIC, 0);
        run.refuses("a FACE ABOVE the object's TYPE has a FAULT", WRONG, "call", 1, 2, 0, 0);
        run.due("another TYPE", NONE, "call", 4, 4, 0, 0);
    }

    private static void promise12Told() {
        argument(run(), 0, 0, 1, both(0), "told", 0);
        argument(plainTypes(20), 0, 0, 1, new int[] {20, 0}, "told", 0);
        argument(fullRun(), 0, 0, 1, new int[] {20, 80}, "told", 0);
        Run run = plainTypes(1);
        for (int n = 0; n < MEMBERS; n++) {
            run.due("MEMBERS", n, "told", 1).member(0, 0, 0, 0, 0, 0);
        }
        run.due("all MEMBERS", 80, "told", 1).due("TYPES", 1, "told", 0).leavesAsItWas("asking", "told", 0);
        plainTypes(1).upper(0, 19).permit(0, 19).due("TYPES named are not told", 1, "told", 0);
    }
}
