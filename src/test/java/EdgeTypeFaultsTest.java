/** "Terms", part 2, FAULTS 1 to 8: each just where it is and just where it is not, and their order. */
final class EdgeTypeFaultsTest extends Edges {
    public static void main(String[] args) {
        inThisOrder();
        byNumbers();
        eachOnce();
        fault1Missing();
        fault2Ring();
        fault2RingOfAll();
        fault3Parent();
        fault3Upper();
        fault4FinalParent();
        fault5TwoOrMore();
        fault5OfKinds();
        fault6NotPermitted();
        fault6WithoutMarks();
        fault6Open();
        fault7Itself();
        fault7Permitted();
        fault8Twice();
        passedOverIn4To8();
        Due.end();
    }

    private static void inThisOrder() {
        Run run = run().type(CLASS, FINAL | SEALED, 0, 0).type(FACE, SEALED, 0, -1).type(ENUM, 0, 0, -1);
        run.upper(0, 2).upper(0, 1).upper(0, 1).permit(0, 12).permit(0, 2);
        run.member(0, 0, 0, DEFAULT, PUBLIC, 0).member(0, 0, 0, DEFAULT, PUBLIC, 0);
        run.faults("1 to 11", 0, 1, 12, 2, 0, 3, 2, 4, 0, 5, 0, 6, 0, 6, 1, 7, 2, 8, 1, 10, 1, 11, 0, 11, 1);
        Run more = run().type(CLASS, FINAL, 0, -1).type(FACE, SEALED, 0, -1).type(FACE, 0, 0, -1);
        more.type(CLASS, FINAL | OPEN, 0, 0).upper(3, 1).upper(3, 2).upper(3, 2).permit(3, 3);
        more.member(3, 0, 0, DEFAULT, PACKAGE, 1).member(3, 0, 0, STATIC, PACKAGE, 2);
        more.member(0, 0, 0, FINAL, PUBLIC, 3);
        more.member(1, 1, 0, ABSTRACT, PUBLIC, 0);
        more.member(1, 2, 0, DEFAULT, PUBLIC, 0).member(2, 2, 0, DEFAULT, PUBLIC, 0);
        more.faults("4 to 17", 3, 4, 0, 5, 3, 6, 1, 7, 3, 8, 2, 10, 1, 11, 0, 12, 0, 12, 1, 13, 1, 14, 0, 14, 1,
                15, 0, 15, 1, 16, 3, 17, 4);
    }

    private static void byNumbers() {
        Run run = chain(2);
        for (int n = 0; n < MEMBERS; n++) {
            int wrong = n == 0 || n == 31 || n == 32 || n == 63 || n == 64 || n == 79 ? DEFAULT : 0;
            run.member(n % 2 == 0 ? 1 : 0, n / 10 % 10, n % 10 / 2, wrong, PRIVATE, 0);
        }
        run.faults("the least and the greatest MEMBER, and those between", 1, 11, 0, 11, 32, 11, 64);
        run.faults("those of the other TYPE", 0, 11, 31, 11, 63, 11, 79);
        plainTypes(18).permit(1, 19).permit(1, 18).permit(1, 0)
                .faults("the least and the greatest TYPE", 1, 1, 18, 1, 19, 7, 0, 7, 1);
    }

    private static void eachOnce() {
        run().type(CLASS, 0, 0, 19).upper(0, 19).upper(0, 19).permit(0, 19).permit(0, 19)
                .faults("as PARENT, UPPER and PERMITTED one", 0, 1, 19, 3, 19);
        run().type(ENUM, 0, 0, -1).type(CLASS, 0, 0, 0).upper(1, 0).upper(1, 0)
                .faults("as PARENT and as UPPER", 1, 3, 0, 8, 0);
        run().type(CLASS, SEALED, 0, -1).type(FACE, 0, 0, 0).upper(1, 0)
                .faults("a SEALED one as PARENT and as UPPER", 1, 3, 0, 6, 0);
        run().type(CLASS, FINAL | SEALED | OPEN | ABSTRACT, 0, -1).permit(0, 0)
                .faults("by more than one rule", 0, 5, 0, 6, 0, 7, 0);
        plainTypes(2).permit(0, 1).permit(0, 1).permit(0, 1).faults("a PERMITTED one told thrice", 0, 7, 0, 7, 1);
        plainTypes(2).permit(0, 0).faults("itself, by both rules", 0, 7, 0);
        run().type(CLASS, 0, 0, -1).type(CLASS, 0, 0, 0).type(CLASS, 0, 0, 1)
                .member(0, 0, 0, FINAL, PUBLIC, 1).member(1, 0, 0, FINAL, PUBLIC, 1).member(2, 0, 0, STATIC, PACKAGE, 2)
                .faults("by two MEMBERS SHARED", 2, 12, 2, 13, 2, 14, 2, 15, 2);
        plainTypes(1).member(0, 0, 0, 0, PUBLIC, 0).member(0, 0, 0, 0, PUBLIC, 0).member(0, 0, 0, 0, PUBLIC, 0)
                .faults("LIKE two others", 0, 10, 1, 10, 2);
    }

    private static void fault1Missing() {
        for (int there : new int[] {1, 10, 19}) {
            Run parent = plainTypes(there - 1).type(CLASS, 0, 0, there);
            parent.faults("a PARENT, the next to come", there - 1, 1, there, 3, there);
            parent.type(CLASS, 0, 0, -1).faults("a PARENT, the last that is there", there - 1);
            Run upper = plainTypes(there).upper(0, there).faults("an UPPER, the next", 0, 1, there, 3, there);
            upper.type(FACE, 0, 0, -1).faults("an UPPER, the last that is there", 0);
            Run permitted = plainTypes(there).permit(0, there).faults("a PERMITTED one, the next", 0, 1, there);
            permitted.type(CLASS, 0, 0, 0).faults("a PERMITTED one, the last that is there", 0, 7, 0);
        }
        plainTypes(1).faults("no PARENT, no UPPER, no PERMITTED one", 0);
        plainTypes(1).member(0, 0, 0, 0, PUBLIC, 29).faults("a RESULT that is not there is none of them", 0);
    }

    private static void fault2Ring() {
        run().type(CLASS, 0, 0, 0).faults("its own PARENT", 0, 2, 0);
        run().type(FACE, 0, 0, -1).upper(0, 0).faults("its own UPPER", 0, 2, 0);
        run().type(CLASS, SEALED, 0, -1).permit(0, 0).faults("permits itself: no RING", 0, 7, 0);
        Run two = run().type(CLASS, 0, 0, 1).type(CLASS, 0, 0, -1).faults("one step, no RING", 0).faults("none", 1);
        two.upper(1, 0).faults("by PARENT and UPPER", 0, 2, 0).faults("both of them", 1, 2, 1, 3, 0);
        Run below = run().type(CLASS, 0, 0, 0).type(CLASS, 0, 0, 0);
        below.faults("below a RING, not ABOVE itself", 1).due("but WRONG", WRONG, "runs", 1, 0, 0);
        Run late = run().type(CLASS, 0, 0, 1).faults("not closed yet", 0, 1, 1, 3, 1);
        late.type(CLASS, 0, 0, 0).faults("closed by one that comes", 0, 2, 0).faults("the other", 1, 2, 1);
        Run twoWays = run().type(FACE, 0, 0, -1).type(FACE, 0, 0, -1).type(FACE, 0, 0, -1).type(FACE, 0, 0, -1);
        twoWays.upper(1, 0).upper(2, 0).upper(3, 1).upper(3, 2);
        twoWays.faults("two ways to one TYPE: no RING", 3).due("nor of the others", 0, "all");
    }

    private static void fault2RingOfAll() {
        Run ring = run();
        for (int n = 0; n < TYPES; n++) {
            ring.type(CLASS, 0, 0, (n + 7) % 20);
        }
        for (int n = 0; n < TYPES; n++) {
            ring.faults("a RING of 20", n, 2, n);
        }
        Run open = run();
        for (int n = 0; n < TYPES; n++) {
            open.type(CLASS, 0, 0, n == 13 ? -1 : (n + 7) % 20);
        }
        open.due("one step less: no RING", 0, "all").due("its ends", 1, "is", 0, 13);
    }

    private static void fault3Parent() {
        for (int kind = 0; kind < 4; kind++) {
            for (int own = 0; own < 4; own++) {
                Run run = run().type(kind, 0, 0, -1).type(own, 0, 0, 0);
                if (kind == CLASS && own == CLASS) {
                    run.faults("a CLASS with a CLASS", 1);
                } else {
                    run.faults("kind " + own + " with a PARENT of kind " + kind, 1, 3, 0);
                }
                run().type(own, 0, 0, -1).faults("kind " + own + " without one", 0);
            }
        }
        for (int own = 0; own < 4; own++) {
            run().type(own, 0, 0, 9).faults("a PARENT that is not there is no CLASS", 0, 1, 9, 3, 9);
        }
        run().type(FACE, 0, 0, 0).faults("its own PARENT, no CLASS", 0, 2, 0, 3, 0);
    }

    private static void fault3Upper() {
        for (int kind = 0; kind < 4; kind++) {
            for (int own = 0; own < 4; own++) {
                Run run = run().type(kind, 0, 0, -1).type(own, 0, 0, -1).upper(1, 0);
                if (kind == FACE) {
                    run.faults("kind " + own + " under a FACE", 1);
                } else {
                    run.faults("kind " + own + " under kind " + kind, 1, 3, 0);
                }
            }
        }
        plainTypes(1).upper(0, 9).faults("an UPPER that is not there is no FACE", 0, 1, 9, 3, 9);
        Run last = run().type(FACE, 0, 0, -1).type(ENUM, 0, 0, -1).type(CLASS, 0, 0, -1).upper(2, 0).upper(2, 0);
        last.faults("the third is still to come", 2, 8, 0).upper(2, 1).faults("the third is no FACE", 2, 3, 1, 8, 0);
        Run permitted = run().type(FACE, SEALED, 0, -1).permit(0, 1).type(ENUM, 0, 0, -1).upper(1, 0);
        permitted.faults("a PERMITTED one of any KIND", 0).faults("which is fine", 1);
    }

    private static void fault4FinalParent() {
        for (int marks = 0; marks < 16; marks++) {
            Run run = run().type(CLASS, marks, 0, -1).type(CLASS, FINAL, 0, 0);
            boolean isFinal = (marks & FINAL) != 0;
            run.due("marks " + marks, isFinal ? 4 : (marks & SEALED) != 0 ? 6 : BAD, "fault", 1, 0, 0);
        }
        run().type(CLASS, FINAL, 0, -1).type(CLASS, 0, 0, 0).type(CLASS, 0, 0, 1)
                .faults("its PARENT", 1, 4, 0).faults("its PARENT's PARENT", 2);
        run().type(FACE, FINAL, 0, -1).type(CLASS, 0, 0, -1).upper(1, 0).faults("an UPPER", 1);
        run().type(RECORD, FINAL, 0, -1).type(CLASS, 0, 0, 0).faults("of any KIND", 1, 3, 0, 4, 0);
        run().type(CLASS, 0, 0, 1).faults("not there: passed over", 0, 1, 1, 3, 1).type(CLASS, FINAL, 0, -1)
                .faults("there", 0, 4, 1);
        run().type(CLASS, FINAL, 0, 0).faults("its own PARENT", 0, 2, 0, 4, 0);
    }

    private static boolean has5(int kind, int marks) {
        Run run = run().type(kind, marks, 0, -1);
        return run.play().fault(0, 0, 0) == 5 && run.play().fault(0, 0, 1) == 0;
    }

    private static void marks(String what, boolean due, int kind, int marks) {
        Due.same("fault 5, " + what + " " + marks, has5(kind, marks) ? 1 : 0, due ? 1 : 0);
    }

    private static void fault5TwoOrMore() {
        for (int kind : new int[] {CLASS, FACE}) {
            marks("none of the three", false, kind, 0);
            marks("one of the three", false, kind, SEALED);
            marks("one of the three", false, kind, OPEN);
            marks("two of the three", true, kind, FINAL | SEALED);
            marks("two of the three", true, kind, FINAL | OPEN);
            marks("two of the three", true, kind, SEALED | OPEN);
            marks("all three", true, kind, FINAL | SEALED | OPEN);
            marks("all", true, kind, ABSTRACT | FINAL | SEALED | OPEN);
            marks("ABSTRACT alone", false, kind, ABSTRACT);
            marks("ABSTRACT and SEALED", false, kind, ABSTRACT | SEALED);
            marks("ABSTRACT and OPEN", false, kind, ABSTRACT | OPEN);
            marks("ABSTRACT, SEALED and OPEN", true, kind, ABSTRACT | SEALED | OPEN);
            marks("ABSTRACT and FINAL", true, kind, ABSTRACT | FINAL);
        }
    }

    private static void fault5OfKinds() {
        marks("FINAL of a CLASS", false, CLASS, FINAL);
        marks("FINAL of a FACE", true, FACE, FINAL);
        for (int kind : new int[] {ENUM, RECORD}) {
            marks("none", false, kind, 0);
            for (int any = 1; any < 16; any++) {
                marks("any", true, kind, any);
            }
        }
    }

    /** A SEALED one, CLASS or FACE as the KIND below asks for, and one below it. */
    private static Run underSealed(int kind, int marks) {
        return kind == CLASS ? run().type(CLASS, SEALED, 0, -1).type(CLASS, marks, 0, 0)
                : run().type(FACE, SEALED, 0, -1).type(kind, marks, 0, -1).upper(1, 0);
    }

    private static void fault6NotPermitted() {
        for (int kind = 0; kind < 4; kind++) {
            int marks = kind == CLASS ? FINAL : kind == FACE ? OPEN : 0;
            underSealed(kind, marks).faults("not permitted", 1, 6, 0);
            underSealed(kind, marks).permit(0, 1).faults("permitted", 1);
            underSealed(kind, marks).permit(0, 2).faults("another one is permitted", 1, 6, 0);
            underSealed(kind, marks).permit(1, 0).due("the other way: still", 6, "fault", 1, 0, 0);
            underSealed(kind, marks).permit(0, 0).permit(0, 19).permit(0, 1).faults("the third", 1);
        }
        run().type(CLASS, 0, 0, -1).type(CLASS, 0, 0, 0).faults("not SEALED", 1);
        run().type(CLASS, SEALED, 0, -1).permit(0, 1).type(CLASS, OPEN, 0, 0).type(CLASS, 0, 0, 1)
                .faults("SEALED two steps ABOVE", 2);
        Run both = run().type(CLASS, SEALED, 0, -1).type(FACE, SEALED, 0, -1).type(FACE, SEALED, 0, -1);
        both.type(CLASS, FINAL, 0, 0).upper(3, 2).upper(3, 1).faults("PARENT and UPPERS", 3, 6, 0, 6, 1, 6, 2);
        both.permit(1, 3).faults("one permits it", 3, 6, 0, 6, 2);
    }

    private static void fault6WithoutMarks() {
        for (int kind : new int[] {CLASS, FACE}) {
            underSealed(kind, 0).permit(0, 1).faults("permitted, without marks", 1, 6, 0);
            underSealed(kind, ABSTRACT).permit(0, 1).faults("permitted, with ABSTRACT alone", 1, 6, 0);
            underSealed(kind, OPEN).permit(0, 1).faults("permitted, with OPEN", 1);
            underSealed(kind, ABSTRACT | OPEN).permit(0, 1).faults("permitted, ABSTRACT and OPEN", 1);
            underSealed(kind, SEALED).permit(0, 1).faults("permitted, with SEALED", 1, 7, 1);
            underSealed(kind, 0).faults("not permitted, without marks: once", 1, 6, 0);
        }
        underSealed(CLASS, FINAL).permit(0, 1).faults("permitted, with FINAL", 1);
        underSealed(FACE, FINAL).permit(0, 1).faults("FINAL, which a FACE can't be", 1, 5, 1);
        underSealed(ENUM, 0).permit(0, 1).faults("an ENUM needs none", 1);
        underSealed(RECORD, 0).permit(0, 1).faults("a RECORD needs none", 1);
        underSealed(RECORD, ABSTRACT).permit(0, 1).faults("nor one with a wrong mark", 1, 5, 1);
    }

    private static void fault6Open() {
        for (int kind : new int[] {CLASS, FACE}) {
            run().type(kind, OPEN, 0, -1).faults("OPEN under nothing", 0, 6, 0);
            run().type(kind, 0, 0, -1).faults("not OPEN under nothing", 0);
            underSealed(kind, OPEN).faults("OPEN under a SEALED one, not permitted", 1, 6, 0);
            underSealed(kind, OPEN).permit(0, 1).faults("OPEN under a SEALED one", 1);
        }
        run().type(RECORD, OPEN, 0, -1).faults("OPEN of any KIND", 0, 5, 0, 6, 0);
        run().type(CLASS, 0, 0, -1).type(CLASS, OPEN, 0, 0).faults("OPEN under one not SEALED", 1, 6, 1);
        Run two = run().type(CLASS, SEALED, 0, -1).permit(0, 1).type(CLASS, OPEN, 0, 0).type(CLASS, OPEN, 0, 1);
        two.faults("SEALED two steps ABOVE", 2, 6, 2).faults("one step", 1);
        Run upper = run().type(FACE, 0, 0, -1).type(FACE, SEALED, 0, -1).permit(1, 2).type(CLASS, OPEN, 0, -1);
        upper.upper(2, 0).faults("an UPPER that is not SEALED", 2, 6, 2);
        upper.upper(2, 0).upper(2, 1).faults("the third UPPER is", 2, 8, 0);
        run().type(CLASS, OPEN, 0, 1).faults("not there: passed over", 0, 1, 1, 3, 1, 6, 0)
                .type(CLASS, SEALED, 0, -1).permit(1, 0).faults("there, and SEALED", 0);
        run().type(CLASS, OPEN | SEALED, 0, 0).faults("its own PARENT is SEALED", 0, 2, 0, 5, 0, 6, 0, 7, 0);
    }

    private static void fault7Itself() {
        for (int kind = 0; kind < 4; kind++) {
            run().type(kind, 0, 0, -1).faults("neither", 0);
            Run sealed = run().type(kind, SEALED, 0, -1);
            int five = kind == ENUM || kind == RECORD ? 1 : 0;
            sealed.due("SEALED, none PERMITTED", 7, "fault", 0, five, 0).due("itself", 0, "fault", 0, five, 1);
            Run has = run().type(kind, 0, 0, -1).type(CLASS, 0, 0, 0).permit(0, 1);
            has.faults("PERMITTED ones, not SEALED", 0, 7, 0);
        }
        run().type(CLASS, SEALED, 0, -1).type(CLASS, FINAL, 0, 0).permit(0, 1).faults("both", 0);
        for (int marks : new int[] {ABSTRACT, FINAL, OPEN}) {
            Run run = run().type(CLASS, marks, 0, -1).type(CLASS, 0, 0, 0).permit(0, 1);
            run.due("another mark", 7, "fault", 0, run.play().faults(0) - 1, 0);
        }
        run().type(CLASS, SEALED, 0, -1).permit(0, 1)
                .faults("SEALED, the only PERMITTED one not there, passed over", 0, 1, 1, 7, 0);
        run().type(CLASS, 0, 0, -1).permit(0, 1)
                .faults("not SEALED, the only PERMITTED one not there, passed over", 0, 1, 1);
        run().type(CLASS, SEALED, 0, -1).type(CLASS, FINAL, 0, 0).permit(0, 19).permit(0, 1)
                .faults("SEALED, one of two is there", 0, 1, 19);
        run().type(CLASS, 0, 0, -1).type(CLASS, 0, 0, 0).permit(0, 19).permit(0, 1)
                .faults("not SEALED, one of two is there", 0, 1, 19, 7, 0);
    }

    private static void fault7Permitted() {
        Run run = run().type(FACE, SEALED, 0, -1).type(CLASS, FINAL, 0, -1).permit(0, 1);
        run.faults("neither PARENT nor UPPER of it", 0, 7, 1).upper(1, 0).faults("UPPER of it", 0);
        run().type(CLASS, SEALED, 0, -1).type(CLASS, FINAL, 0, 0).permit(0, 1).faults("PARENT of it", 0);
        Run two = run().type(CLASS, SEALED, 0, -1).type(CLASS, OPEN, 0, 0).type(CLASS, FINAL, 0, 1);
        two.permit(0, 1).faults("one step", 0).permit(0, 2).faults("two steps", 0, 7, 2);
        two.permit(0, 0).faults("itself", 0, 7, 0, 7, 2);
        Run third = run().type(FACE, 0, 0, -1).type(FACE, SEALED, 0, -1).type(ENUM, 0, 0, -1).permit(1, 2);
        third.upper(2, 0).upper(2, 0).faults("not yet UPPER", 1, 7, 2).upper(2, 1).faults("the third UPPER", 1);
        run().type(CLASS, SEALED, 0, 1).type(CLASS, FINAL, 0, -1).permit(0, 1).faults("the other way", 0, 4, 1, 7, 1);
        run().type(CLASS, SEALED, 0, 0).permit(0, 0).faults("its own PARENT", 0, 2, 0);
    }

    private static void fault8Twice() {
        Run run = run().type(FACE, 0, 0, -1).type(FACE, 0, 0, -1).type(CLASS, 0, 0, -1).upper(2, 0);
        run.faults("told once", 2);
        run().type(FACE, 0, 0, -1).type(CLASS, 0, 0, -1).upper(1, 0).upper(1, 0).faults("told twice", 1, 8, 0);
        run().type(FACE, 0, 0, -1).type(CLASS, 0, 0, -1).upper(1, 0).upper(1, 0).upper(1, 0).faults("thrice", 1, 8, 0);
        run.upper(2, 1).faults("two different ones", 2).upper(2, 0).faults("with another between", 2, 8, 0);
        run().type(FACE, 0, 0, -1).type(FACE, 0, 0, -1).type(CLASS, 0, 0, -1).upper(2, 1).upper(2, 0).upper(2, 0)
                .faults("the second and the third", 2, 8, 0);
        run().type(FACE, 0, 0, -1).type(CLASS, 0, 0, -1).upper(1, 0).type(CLASS, 0, 0, 1).upper(2, 0)
                .faults("told of two TYPES, once each", 2);
        run().type(CLASS, 0, 0, -1).type(CLASS, 0, 0, 0).upper(1, 0).faults("PARENT and UPPER", 1, 3, 0);
        run().type(CLASS, 0, 0, -1).upper(0, 1).upper(0, 1).faults("not there: passed over", 0, 1, 1, 3, 1)
                .type(FACE, 0, 0, -1).faults("there", 0, 8, 1);
        run().type(CLASS, SEALED, 0, -1).type(CLASS, FINAL, 0, 0).permit(0, 1).permit(0, 1)
                .faults("a PERMITTED one told twice", 0);
    }

    private static void passedOverIn4To8() {
        run().type(CLASS, 0, 0, 19).upper(0, 18).upper(0, 18).permit(0, 17)
                .faults("4, 6, 7, 8 of those that are not there", 0, 1, 17, 1, 18, 1, 19, 3, 18, 3, 19);
        run().type(CLASS, FINAL, 0, 19).faults("4 and 6", 0, 1, 19, 3, 19);
    }
}
