/** "Terms", part 2, FAULTS 10 to 17: each just where it is and just where it is not, and what ends them. */
final class EdgeMemberFaultsTest extends Edges {
    public static void main(String[] args) {
        fault10Like();
        fault11OfAFace();
        fault11OfOthers();
        noMoreBy1To3();
        moreBy4To11();
        fault12Final();
        fault13Static();
        fault14Access();
        fault15Result();
        notOfPrivateOnes();
        fault16Least();
        fault16NotOf();
        fault17TwoOrMore();
        fault17Least();
        Due.end();
    }

    private static void fault10Like() {
        Run run = plainTypes(2).member(0, 5, 3, 0, PUBLIC, 0).faults("alone", 0);
        run.member(1, 5, 3, 0, PUBLIC, 0).faults("LIKE it in another TYPE", 0).faults("nor there", 1);
        run.member(0, 5, 3, 0, PUBLIC, 0).faults("the one with the greater number", 0, 10, 2).faults("nor there", 1);
        Run over = chain(2).member(0, 0, 0, 0, PUBLIC, 0).member(1, 0, 0, 0, PUBLIC, 0);
        over.faults("LIKE one of its PARENT", 1);
        Run far = plainTypes(2).member(1, 0, 0, 0, PUBLIC, 0);
        for (int n = 1; n < 79; n++) {
            far.member(0, 1 + n / 5 % 9, n % 5, 0, PUBLIC, 0);
        }
        far.member(1, 0, 0, 0, PUBLIC, 0).faults("the least and the greatest", 1, 10, 79);
    }

    private static void fault11OfAFace() {
        for (int marks = 0; marks < 16; marks++) {
            for (int access = 0; access < 4; access++) {
                Run run = run().type(FACE, 0, 0, -1).member(0, 0, 0, marks, access, 0);
                int ways = Integer.bitCount(marks & (ABSTRACT | DEFAULT | STATIC)) + (access == PRIVATE ? 1 : 0);
                boolean wrong = (marks & FINAL) != 0 || access == PACKAGE || access == PROTECTED || ways != 1;
                run.due("marks " + marks + ", access " + access, wrong ? 1 : 0, "faults", 0);
                run.due("its kind", wrong ? 11 : BAD, "fault", 0, 0, 0);
            }
        }
    }

    private static void fault11OfOthers() {
        for (int marks : new int[] {0, FINAL, STATIC, FINAL | STATIC}) {
            for (int access = 0; access < 4; access++) {
                plainTypes(1).member(0, 0, 0, marks, access, 0).faults("neither ABSTRACT nor DEFAULT", 0);
                plainTypes(1).member(0, 0, 0, marks | DEFAULT, access, 0).faults("DEFAULT", 0, 11, 0);
            }
        }
        for (int access = 1; access < 4; access++) {
            Run run = run().type(CLASS, ABSTRACT, 0, -1).member(0, 0, 0, ABSTRACT, access, 0);
            run.faults("ABSTRACT in an ABSTRACT CLASS", 0);
            Run both = run().type(CLASS, ABSTRACT, 0, -1);
            both.member(0, 0, 0, ABSTRACT | FINAL, access, 0).member(0, 1, 0, ABSTRACT | STATIC, access, 0);
            both.member(0, 2, 0, ABSTRACT | DEFAULT, access, 0);
            both.faults("with FINAL, with STATIC, with DEFAULT", 0, 11, 0, 11, 1, 11, 2);
        }
        run().type(CLASS, ABSTRACT, 0, -1).member(0, 0, 0, ABSTRACT, PRIVATE, 0).faults("private", 0, 11, 0);
        run().type(CLASS, 0, 0, -1).member(0, 0, 0, ABSTRACT, PUBLIC, 0).faults("in another CLASS", 0, 11, 0, 16, 0);
        run().type(CLASS, SEALED, 0, -1).member(0, 0, 0, ABSTRACT, PUBLIC, 0)
                .faults("in one with another mark", 0, 7, 0, 11, 0, 16, 0);
        for (int kind : new int[] {ENUM, RECORD}) {
            run().type(kind, 0, 0, -1).member(0, 0, 0, ABSTRACT, PUBLIC, 0).faults("no CLASS", 0, 11, 0, 16, 0);
            run().type(kind, ABSTRACT, 0, -1).member(0, 0, 0, ABSTRACT, PUBLIC, 0)
                    .faults("no CLASS, though ABSTRACT", 0, 5, 0, 11, 0);
        }
    }

    /** Type 2, below 1, which is below 0, has the faults 10 to 17, unless something stops those behind 11. */
    private static Run withMany() {
        Run run = chain(3).type(FACE, 0, 0, -1).type(FACE, 0, 0, -1).upper(2, 3).upper(2, 4);
        run.member(0, 0, 0, FINAL, PUBLIC, 0).member(2, 0, 0, STATIC, PACKAGE, 1).member(2, 0, 0, DEFAULT, PRIVATE, 0);
        run.member(3, 1, 0, DEFAULT, PUBLIC, 0).member(4, 1, 0, DEFAULT, PUBLIC, 0);
        return run.member(4, 2, 0, ABSTRACT, PUBLIC, 0);
    }

    private static void noMoreBy1To3() {
        int[] all = {10, 2, 11, 2, 12, 1, 13, 1, 14, 1, 15, 1, 16, 5, 17, 3};
        withMany().faults("nothing stops", 2, all);
        for (int type : new int[] {0, 1, 3, 4}) {
            withMany().permit(type, 19).faults("one ABOVE has fault 1 by a PERMITTED one", 2, 10, 2, 11, 2);
            withMany().upper(type, 19).faults("one ABOVE has fault 1 by an UPPER", 2, 10, 2, 11, 2);
        }
        withMany().permit(2, 19).faults("it has fault 1", 2, 1, 19, 10, 2, 11, 2);
        withMany().upper(0, 0).faults("one ABOVE has fault 2", 2, 10, 2, 11, 2);
        withMany().upper(2, 2).faults("it has fault 2", 2, 2, 2, 3, 2, 10, 2, 11, 2);
        withMany().type(ENUM, 0, 0, -1).upper(0, 5).faults("one ABOVE has fault 3", 2, 10, 2, 11, 2);
        withMany().type(ENUM, 0, 0, -1).upper(2, 5).faults("it has fault 3", 2, 3, 5, 10, 2, 11, 2);
        withMany().type(CLASS, 0, 0, 2).permit(5, 19).faults("one below has fault 1", 2, all);
        withMany().type(CLASS, 0, 0, 5).faults("one beside has fault 2", 2, all);
        withMany().type(FACE, 0, 0, 0).faults("one beside has fault 3", 2, all);
        withMany().type(CLASS, 0, 0, 2).permit(2, 5).permit(5, 19)
                .faults("a PERMITTED one has fault 1", 2, 7, 2, 10, 2, 11, 2, 12, 1, 13, 1, 14, 1, 15, 1, 16, 5, 17, 3);
        Run far = chain(20).member(0, 0, 0, FINAL, PUBLIC, 0).member(19, 0, 0, 0, PUBLIC, 0);
        far.faults("19 steps ABOVE, nothing wrong", 19, 12, 1).permit(0, 0).faults("fault 7 there", 19, 12, 1);
        far.upper(0, 0).faults("faults 2 and 3 there", 19);
    }

    private static void moreBy4To11() {
        run().type(CLASS, FINAL, 0, -1).type(CLASS, 0, 0, 0).type(CLASS, 0, 0, 1)
                .member(0, 0, 0, FINAL, PUBLIC, 0).member(1, 0, 0, 0, PUBLIC, 0).member(2, 0, 0, 0, PUBLIC, 0)
                .faults("4 does not stop", 1, 4, 0, 12, 1).faults("nor does it from ABOVE", 2, 12, 2);
        int[] marks = {ABSTRACT | FINAL, OPEN, SEALED};
        int[] kinds = {5, 6, 7};
        for (int i = 0; i < 3; i++) {
            Run run = run().type(CLASS, 0, 0, -1).type(CLASS, marks[i], 0, 0);
            run.member(0, 0, 0, FINAL, PUBLIC, 0).member(1, 0, 0, 0, PUBLIC, 0);
            run.faults(kinds[i] + " does not stop", 1, kinds[i], 1, 12, 1);
        }
        run().type(FACE, 0, 0, -1).type(CLASS, 0, 0, -1).upper(1, 0).upper(1, 0)
                .member(0, 0, 0, ABSTRACT, PUBLIC, 0).faults("8 does not stop", 1, 8, 0, 16, 0);
        chain(2).member(0, 0, 0, FINAL, PUBLIC, 0).member(1, 0, 0, DEFAULT, PUBLIC, 0).member(1, 0, 0, 0, PUBLIC, 0)
                .faults("10 and 11 do not stop", 1, 10, 2, 11, 1, 12, 1, 12, 2);
        chain(3).member(0, 0, 0, FINAL, PUBLIC, 0).member(1, 0, 0, 0, PUBLIC, 0).member(2, 0, 0, 0, PUBLIC, 0)
                .faults("12 does not stop", 1, 12, 1).faults("nor from ABOVE", 2, 12, 2);
    }

    /** Two classes of one PACKAGE, each with one of two MEMBERS LIKE one another. */
    private static Run over(int marks, int access, int result, int ownMarks, int ownAccess, int ownResult) {
        Run run = run().type(CLASS, ABSTRACT, 0, -1).type(CLASS, ABSTRACT, 0, 0);
        return run.member(0, 3, 2, marks, access, result).member(1, 3, 2, ownMarks, ownAccess, ownResult);
    }

    private static void fault12Final() {
        over(0, PUBLIC, 0, 0, PUBLIC, 0).faults("it is not FINAL", 1);
        over(FINAL, PUBLIC, 0, 0, PUBLIC, 0).faults("it is FINAL", 1, 12, 1).faults("not of that one", 0);
        over(0, PUBLIC, 0, FINAL, PUBLIC, 0).faults("its own is FINAL", 1);
        over(FINAL | STATIC, PUBLIC, 0, STATIC, PUBLIC, 0).faults("STATIC ones, too", 1, 12, 1);
        Run near = run().type(CLASS, 0, 0, -1).type(CLASS, 0, 0, 0);
        near.member(0, 3, 2, FINAL, PUBLIC, 0).member(1, 3, 3, 0, PUBLIC, 0).member(1, 4, 2, 0, PUBLIC, 0);
        near.faults("not LIKE it", 1);
    }

    private static void fault13Static() {
        over(0, PUBLIC, 0, 0, PUBLIC, 0).faults("neither", 1);
        over(STATIC, PUBLIC, 0, STATIC, PUBLIC, 0).faults("both", 1);
        over(0, PUBLIC, 0, STATIC, PUBLIC, 0).faults("it is, the other is not", 1, 13, 1);
        over(STATIC, PUBLIC, 0, 0, PUBLIC, 0).faults("the other way", 1, 13, 1);
    }

    private static void fault14Access() {
        for (int access = 1; access < 4; access++) {
            for (int own = 1; own < 4; own++) {
                Run run = over(0, access, 0, 0, own, 0);
                if (access > own) {
                    run.faults("greater: " + access + ", " + own, 1, 14, 1);
                } else {
                    run.faults("not greater: " + access + ", " + own, 1);
                }
            }
        }
        Run two = chain(3).member(0, 0, 0, 0, PUBLIC, 0).member(1, 0, 0, 0, PACKAGE, 0);
        two.member(2, 0, 0, 0, PROTECTED, 0).faults("that of one of two is greater", 2, 14, 2);
    }

    private static void fault15Result() {
        for (int result : new int[] {0, 9, 10, 29}) {
            over(0, PUBLIC, result, 0, PUBLIC, result).faults("the same: " + result, 1);
        }
        over(0, PUBLIC, 0, 0, PUBLIC, 9).faults("two plain ones", 1, 15, 1);
        over(0, PUBLIC, 9, 0, PUBLIC, 10).faults("a TYPE, over a plain one", 1, 15, 1);
        over(0, PUBLIC, 10, 0, PUBLIC, 9).faults("a plain one, over a TYPE", 1, 15, 1);
        over(0, PUBLIC, 0, 0, PUBLIC, 10).faults("TYPE 0 is not the plain 0", 1, 15, 1);
        over(0, PUBLIC, 10, 0, PUBLIC, 11).faults("a TYPE that IS that", 1);
        over(0, PUBLIC, 11, 0, PUBLIC, 10).faults("a TYPE that IS not that, but the other way", 1, 15, 1);
        over(0, PUBLIC, 10, 0, PUBLIC, 12).faults("a TYPE that is not there", 1, 15, 1)
                .type(CLASS, 0, 0, 0).faults("there, and IS that", 1);
        over(0, PUBLIC, 12, 0, PUBLIC, 10).faults("over a TYPE that is not there", 1, 15, 1);
        over(0, PUBLIC, 13, 0, PUBLIC, 12).type(CLASS, 0, 0, 3).faults("names that, which is not there", 1, 15, 1)
                .type(CLASS, 0, 0, -1).faults("there", 1);
        Run far = chain(20).member(0, 0, 0, 0, PUBLIC, 10).member(1, 0, 0, 0, PUBLIC, 29);
        far.faults("the greatest, 19 steps below the least", 1);
        Run two = chain(4).member(0, 0, 0, 0, PUBLIC, 10).member(1, 0, 0, 0, PUBLIC, 12).member(2, 0, 0, 0, PUBLIC, 11);
        two.faults("IS one and not the other", 2, 15, 2).member(3, 0, 0, 0, PUBLIC, 13).faults("IS all", 3);
    }

    private static void notOfPrivateOnes() {
        over(FINAL | STATIC, PUBLIC, 0, 0, PRIVATE, 1).faults("a private one has none", 1);
        over(FINAL | STATIC, PUBLIC, 0, 0, PACKAGE, 1).faults("one of the package has", 1, 12, 1, 13, 1, 14, 1, 15, 1);
        over(FINAL | STATIC, PRIVATE, 0, 0, PACKAGE, 1).faults("over a private one", 1);
    }

    private static void fault16Least() {
        Run run = run().type(CLASS, ABSTRACT, 0, -1).type(CLASS, 0, 0, 0).member(0, 0, 0, 0, PUBLIC, 0);
        run.faults("none is ABSTRACT", 1).member(0, 9, 4, ABSTRACT, PUBLIC, 0).faults("one is", 1, 16, 1);
        run.member(0, 9, 3, ABSTRACT, PUBLIC, 0).faults("for each NAME and PARAMS", 1, 16, 1, 16, 2);
        run.member(1, 9, 4, 0, PUBLIC, 0).faults("one is given", 1, 16, 2);
        Run faces = run().type(FACE, 0, 0, -1).type(FACE, 0, 0, -1).type(CLASS, 0, 0, -1).upper(2, 0).upper(2, 1);
        faces.member(1, 0, 0, ABSTRACT, PUBLIC, 0).member(0, 0, 0, ABSTRACT, PUBLIC, 0);
        faces.faults("the least of two", 2, 16, 0);
        Run many = run().type(CLASS, ABSTRACT, 0, -1).type(CLASS, 0, 0, 0);
        for (int n = 0; n < 50; n++) {
            many.member(0, n / 5, n % 5, ABSTRACT, PUBLIC, 0);
        }
        many.due("50 NAMES with PARAMS", 50, "faults", 1).due("none of the ABSTRACT one", 0, "faults", 0);
        many.due("the last", 49, "fault", 1, 49, 1).due("one behind it", BAD, "fault", 1, 50, 1);
    }

    private static void fault16NotOf() {
        for (int kind = 0; kind < 4; kind++) {
            for (int marks = 0; marks < 2; marks++) {
                Run run = run().type(FACE, 0, 0, -1).member(0, 0, 0, ABSTRACT, PUBLIC, 0).type(kind, marks, 0, -1);
                run.upper(1, 0);
                boolean owes = kind != FACE && marks == 0;
                int five = marks == ABSTRACT && kind >= ENUM ? 1 : 0;
                run.due("kind " + kind + ", marks " + marks, owes ? 16 : BAD, "fault", 1, five, 0);
            }
        }
        run().type(FACE, 0, 0, -1).member(0, 0, 0, ABSTRACT, PUBLIC, 0).type(CLASS, ABSTRACT, 0, -1).upper(1, 0)
                .type(CLASS, 0, 0, 1).faults("an ABSTRACT one leaves it", 1).faults("to one below", 2, 16, 0);
    }

    /** A type of the KIND under two faces, with one MEMBER each. */
    private static Run rivals(int kind, int marks, int otherMarks) {
        Run run = run().type(FACE, 0, 0, -1).type(FACE, 0, 0, -1).type(kind, 0, 0, -1).upper(2, 0).upper(2, 1);
        return run.member(0, 0, 0, marks, PUBLIC, 0).member(1, 0, 0, otherMarks, PUBLIC, 0);
    }

    private static void fault17TwoOrMore() {
        for (int kind = 0; kind < 4; kind++) {
            rivals(kind, DEFAULT, DEFAULT).faults("two, both DEFAULT", 2, 17, 0);
            rivals(kind, ABSTRACT, DEFAULT).faults("two, one DEFAULT", 2, 17, 0);
            rivals(kind, DEFAULT, ABSTRACT).faults("two, the other DEFAULT", 2, 17, 0);
            rivals(kind, DEFAULT, STATIC).faults("just one", 2);
            rivals(kind, STATIC, STATIC).faults("none", 2);
            Run none = rivals(kind, ABSTRACT, ABSTRACT);
            none.due("two, none DEFAULT", kind == FACE ? BAD : 16, "fault", 2, 0, 0);
        }
        rivals(CLASS, DEFAULT, DEFAULT).member(2, 0, 0, 0, PUBLIC, 0).faults("a CLASS ONE", 2);
        rivals(CLASS, DEFAULT, DEFAULT).member(2, 0, 0, 0, PRIVATE, 0).faults("a private CLASS ONE", 2);
        rivals(CLASS, DEFAULT, DEFAULT).member(2, 0, 0, STATIC, PUBLIC, 0).faults("no CLASS ONE", 2, 13, 2, 17, 0);
        rivals(CLASS, DEFAULT, DEFAULT).member(2, 0, 1, 0, PUBLIC, 0).faults("for other PARAMS", 2, 17, 0);
        rivals(FACE, DEFAULT, DEFAULT).member(2, 0, 0, DEFAULT, PUBLIC, 0).faults("its own FACE ONE", 2);
        rivals(FACE, DEFAULT, DEFAULT).upper(1, 0).faults("one ABOVE the other", 2);
    }

    private static void fault17Least() {
        Run run = run().type(FACE, 0, 0, -1).type(FACE, 0, 0, -1).type(FACE, 0, 0, -1).type(CLASS, 0, 0, -1);
        run.upper(3, 0).upper(3, 1).upper(3, 2);
        run.member(2, 0, 0, ABSTRACT, PUBLIC, 0).member(1, 0, 0, DEFAULT, PUBLIC, 0);
        run.member(0, 0, 0, ABSTRACT, PUBLIC, 0);
        run.faults("the least, DEFAULT or not", 3, 17, 0);
        run.member(0, 1, 0, DEFAULT, PUBLIC, 0).member(1, 1, 0, DEFAULT, PUBLIC, 0);
        run.faults("for each NAME and PARAMS", 3, 17, 0, 17, 3);
    }
}
