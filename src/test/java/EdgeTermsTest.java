/** "Terms", part 1: the limits that it names, TYPES that are not there yet or never, ABOVE, IS, LIKE and SHARED. */
final class EdgeTermsTest extends Edges {
    public static void main(String[] args) {
        types0To19();
        uppers3AtMost();
        permitted3AtMost();
        inAnyOrderTold();
        perhapsAParent();
        parentNotThereYet();
        upperNotThereYet();
        permittedNotThereYet();
        never();
        askedBeforeEachChange();
        aboveByWayOfOneNotThere();
        aboveByPermittedOnes();
        aboveAcrossAll();
        isItself();
        members0To79();
        like();
        sharedByAccess();
        sharedFromAbove();
        sharedStatic();
        Due.end();
    }

    private static void types0To19() {
        ClassRules r = new ClassRules();
        for (int n = 0; n < TYPES; n++) {
            Due.same("TYPE " + n + " is not there yet", r.faults(n), BAD);
            Due.same("its number", r.type(n % 4, 0, n % 4, -1), n);
            Due.same("now it is there", r.faults(n), 0);
            Due.same("how many", r.told(0), n + 1);
        }
        for (int n = 20; n < 25; n++) {
            Due.same("no room", r.type(0, 0, 0, -1), FULL);
            Due.same("TYPE " + n + " is never there", r.faults(n), BAD);
            Due.same("as many as before", r.told(0), TYPES);
        }
    }

    private static void uppers3AtMost() {
        Run run = run().type(FACE, 0, 0, -1).type(FACE, 0, 0, -1).type(FACE, 0, 0, -1).type(FACE, 0, 0, -1);
        run.type(CLASS, 0, 0, -1).upper(4, 0).upper(4, 1);
        run.due("2 of them", 0, "is", 4, 2).upper(4, 2).due("the third", 1, "is", 4, 2);
        run.refuses("a fourth", FULL, "upper", 4, 3).due("which it is not", 0, "is", 4, 3);
        ClassRules r = run.play();
        Due.same("a fourth", r.upper(4, 3), FULL);
        Due.same("it is not kept", r.is(4, 3), 0);
        Due.faults("nor is it a fault", r, 4);
        Run all = run();
        for (int n = 0; n < TYPES; n++) {
            all.type(FACE, 0, 0, -1);
        }
        for (int n = 3; n < TYPES; n++) {
            all.upper(n, n - 1).upper(n, n - 2).upper(n, n - 3);
        }
        all.due("3 of each", 0, "all");
        for (int n = 0; n < TYPES; n++) {
            all.due("how many of " + n, n < 3 ? 1 : FULL, "upper", n, 0);
        }
    }

    private static void permitted3AtMost() {
        Run run = run().type(CLASS, SEALED, 0, -1);
        for (int n = 1; n <= 4; n++) {
            run.type(CLASS, FINAL, 0, 0);
        }
        run.permit(0, 1).permit(0, 2).faults("not yet permitted", 3, 6, 0);
        run.permit(0, 3).faults("the third", 3).faults("not permitted", 4, 6, 0);
        run.refuses("a fourth", FULL, "permit", 0, 4);
        ClassRules r = run.play();
        Due.same("a fourth", r.permit(0, 4), FULL);
        Due.faults("it is not kept", r, 4, 6, 0);
        Due.faults("nor a fault", r, 0);
    }

    /** "TYPES in the order told": faults go by NUMBERS, whatever that order is. */
    private static void inAnyOrderTold() {
        int[][] orders = {{17, 18, 19}, {19, 18, 17}, {18, 19, 17}, {18, 17, 19}, {19, 17, 18}, {17, 19, 18}};
        for (int[] o : orders) {
            Run uppers = plainTypes(1).upper(0, o[0]).upper(0, o[1]).upper(0, o[2]);
            uppers.faults("uppers", 0, 1, 17, 1, 18, 1, 19, 3, 17, 3, 18, 3, 19);
            Run permitted = plainTypes(1).permit(0, o[0]).permit(0, o[1]).permit(0, o[2]);
            permitted.faults("permitted ones", 0, 1, 17, 1, 18, 1, 19);
        }
    }

    private static void perhapsAParent() {
        run().type(CLASS, 0, 0, -1).faults("none", 0).due("IS itself alone", 1, "is", 0, 0);
        run().type(FACE, 0, 0, -1).faults("a FACE without one", 0);
        run().type(CLASS, 0, 0, -1).type(CLASS, 0, 0, 0).faults("TYPE 0", 1).due("IS that", 1, "is", 1, 0);
        Run last = plainTypes(18).type(CLASS, 0, 0, 19);
        last.faults("TYPE 19, not there", 18, 1, 19, 3, 19).type(CLASS, 0, 0, -1);
        last.faults("TYPE 19", 18).due("IS that", 1, "is", 18, 19);
    }

    private static void parentNotThereYet() {
        Run run = run().type(CLASS, 0, 0, 2).type(CLASS, 0, 0, -1);
        run.faults("not there yet", 0, 1, 2, 3, 2).due("to ask for it is BAD", BAD, "is", 0, 2);
        run.due("WRONG by it", WRONG, "runs", 0, 0, 0);
        run.type(CLASS, 0, 0, 1).faults("there", 0).due("IS it", 1, "is", 0, 2).due("and what is ABOVE", 1, "is", 0, 1);
        run.due("no longer WRONG", NONE, "runs", 0, 0, 0);
        run.member(1, 0, 0, 0, PUBLIC, 0).due("a MEMBER by way of it", 0, "runs", 0, 0, 0);
        ClassRules r = new ClassRules();
        r.type(CLASS, 0, 0, 1);
        Due.same("asked before", r.all(), 2);
        r.type(FACE, 0, 0, -1);
        Due.faults("what comes is no CLASS", r, 0, 3, 1);
    }

    private static void upperNotThereYet() {
        Run run = run().type(CLASS, 0, 0, -1).upper(0, 2).type(FACE, 0, 0, -1);
        run.faults("not there yet", 0, 1, 2, 3, 2).due("to ask for it is BAD", BAD, "is", 0, 2);
        run.type(FACE, 0, 0, -1).faults("there", 0).due("IS it", 1, "is", 0, 2).due("IS not another", 0, "is", 0, 1);
        run.upper(2, 1).due("IS what is ABOVE it", 1, "is", 0, 1);
        ClassRules r = new ClassRules();
        r.type(CLASS, 0, 0, -1);
        r.upper(0, 1);
        Due.same("asked before", r.all(), 2);
        r.type(RECORD, 0, 0, -1);
        Due.faults("what comes is no FACE", r, 0, 3, 1);
    }

    private static void permittedNotThereYet() {
        Run run = run().type(CLASS, SEALED, 0, -1).permit(0, 2).type(CLASS, FINAL, 0, 0);
        run.faults("not there yet", 0, 1, 2, 7, 0).faults("the other one", 1, 6, 0);
        Run below = run().type(CLASS, SEALED, 0, -1).permit(0, 1);
        below.type(CLASS, FINAL, 0, 0).faults("there and below", 0).faults("it is permitted", 1);
        run.type(CLASS, FINAL, 0, -1).faults("there, not below", 0, 7, 2).faults("free of faults", 2);
    }

    private static void never() {
        Run run = plainTypes(1).upper(0, 19).permit(0, 18).type(CLASS, 0, 0, 17);
        for (int n = 2; n < 17; n++) {
            run.type(CLASS, 0, 0, -1);
        }
        run.faults("an UPPER and a PERMITTED one", 0, 1, 18, 1, 19, 3, 19).faults("a PARENT", 1, 1, 17, 3, 17);
        run.member(2, 0, 0, 0, PUBLIC, 27).faults("a RESULT is no fault", 2);
        run.due("TYPES told", 17, "told", 0);
    }

    /** What was answered before does not hold on where a declaration has changed it, for each kind of these. */
    private static void askedBeforeEachChange() {
        ClassRules r = new ClassRules();
        Due.same("nothing", r.all(), 0);
        r.type(CLASS, ABSTRACT, 0, 1);
        Due.same("a TYPE told: a PARENT not there", r.all(), 2);
        Due.faults("its faults", r, 0, 1, 1, 3, 1);
        r.type(CLASS, 0, 0, -1);
        Due.same("the PARENT told", r.all(), 0);
        Due.faults("its faults", r, 0);
        r.upper(1, 19);
        Due.same("an UPPER told", r.all(), 2);
        Due.faults("its faults", r, 1, 1, 19, 3, 19);
        ClassRules s = chain(2).play();
        Due.same("nothing wrong", s.all(), 0);
        s.permit(0, 1);
        Due.same("a PERMITTED one told", s.all(), 1);
        Due.faults("its faults", s, 0, 7, 0);
        Due.same("WRONG by it", s.runs(1, 0, 0), WRONG);
        ClassRules t = chain(2).play();
        Due.same("nothing to run", t.runs(1, 0, 0), NONE);
        t.member(0, 0, 0, 0, PUBLIC, 0);
        Due.same("a MEMBER told", t.runs(1, 0, 0), 0);
        t.member(0, 0, 0, 0, PUBLIC, 0);
        Due.same("another one LIKE it", t.runs(1, 0, 0), WRONG);
        Due.faults("its faults", t, 0, 10, 1);
    }

    private static void aboveByWayOfOneNotThere() {
        Run run = plainTypes(2).type(CLASS, 0, 0, 4).type(CLASS, 0, 0, 2);
        run.due("ABOVE are those that are there", 1, "is", 3, 2).due("nothing more", 0, "is", 3, 0);
        run.due("one not there has nothing ABOVE", 0, "is", 2, 0);
        run.type(CLASS, 0, 0, 0).due("now it has", 1, "is", 2, 0).due("so has one below", 1, "is", 3, 0);
        run.due("not all", 0, "is", 3, 1);
    }

    private static void aboveByPermittedOnes() {
        Run run = run().type(CLASS, SEALED, 0, -1).permit(0, 1).type(CLASS, FINAL, 0, 0);
        run.due("a PERMITTED one is not ABOVE", 0, "is", 0, 1).due("but below", 1, "is", 1, 0);
        run.faults("and so there is no ring", 0);
    }

    private static void aboveAcrossAll() {
        Run up = chain(20);
        Run down = run();
        for (int n = 0; n < TYPES; n++) {
            down.type(CLASS, 0, 0, n == 19 ? -1 : n + 1);
        }
        up.due("19 steps", 1, "is", 19, 0).due("not the other way", 0, "is", 0, 19);
        down.due("19 steps", 1, "is", 0, 19).due("not the other way", 0, "is", 19, 0);
        for (int n = 0; n < TYPES; n++) {
            for (int other = 0; other < TYPES; other++) {
                up.due("each of a chain", other <= n ? 1 : 0, "is", n, other);
                down.due("each of a chain told from below", other >= n ? 1 : 0, "is", n, other);
            }
        }
        aboveFromBothEnds();
    }

    private static void aboveFromBothEnds() {
        Run zigzag = run();
        int[] order = new int[TYPES];
        for (int n = 0; n < TYPES; n++) {
            order[n] = n % 2 == 0 ? n / 2 : 19 - n / 2;
            zigzag.type(FACE, 0, 0, -1);
        }
        for (int n = 1; n < TYPES; n++) {
            zigzag.upper(order[n], order[n - 1]);
        }
        for (int low = 0; low < TYPES; low++) {
            for (int high = 0; high < TYPES; high++) {
                zigzag.due("each of a chain from both ends", high <= low ? 1 : 0, "is", order[low], order[high]);
            }
        }
    }

    private static void isItself() {
        Run run = run().type(CLASS, 0, 0, -1).type(FACE, 0, 0, -1).type(ENUM, 0, 0, -1).type(RECORD, 0, 0, -1);
        run.type(CLASS, 0, 0, 4);
        for (int n = 0; n < 5; n++) {
            run.due("IS itself", 1, "is", n, n);
        }
        run.due("one that is not there", BAD, "is", 5, 5);
        run.faults("IS itself, and is not ABOVE itself", 0).faults("is ABOVE itself", 4, 2, 4);
    }

    private static void members0To79() {
        ClassRules r = plainTypes(20).play();
        for (int n = 0; n < MEMBERS; n++) {
            Due.same("its number", r.member(n % 20, n / 20, 0, 0, PUBLIC, 0), n);
            Due.same("how many", r.told(1), n + 1);
            Due.same("it runs", r.runs(n % 20, n / 20, 0), n);
        }
        Due.same("no room", r.member(0, 9, 0, 0, PUBLIC, 0), FULL);
        Due.same("it is not kept", r.runs(0, 9, 0), NONE);
        Due.same("as many as before", r.told(1), MEMBERS);
        Due.same("the last one", r.runs(19, 3, 0), 79);
    }

    /** "LIKE are MEMBERS with the same NAME and PARAMS": 50 of one TYPE are all different, one more is not. */
    private static void like() {
        Run run = plainTypes(1);
        for (int n = 0; n < 50; n++) {
            run.member(0, n / 5, n % 5, 0, PUBLIC, 0);
        }
        run.faults("50 that are not LIKE", 0);
        ClassRules r = run.play();
        for (int n = 0; n < 50; n++) {
            Due.same("each runs", r.runs(0, n / 5, n % 5), n);
        }
        for (int n : new int[] {0, 4, 5, 45, 49}) {
            Run more = plainTypes(1);
            for (int m = 0; m < 50; m++) {
                more.member(0, m / 5, m % 5, 0, PUBLIC, 0);
            }
            more.member(0, n / 5, n % 5, FINAL, PRIVATE, 29).faults("one more, LIKE " + n, 0, 10, 50);
        }
        Run near = plainTypes(1).member(0, 1, 2, 0, PUBLIC, 0).member(0, 2, 1, 0, PUBLIC, 0);
        near.faults("NAME and PARAMS changed over", 0);
        near.member(0, 1, 3, 0, PUBLIC, 0).faults("the same NAME alone", 0);
        near.member(0, 3, 2, 0, PUBLIC, 0).faults("the same PARAMS alone", 0);
    }

    /** Whether a FINAL one of a TYPE above is SHARED with the TYPE: then one LIKE it has fault 12. */
    private static void shared(String what, boolean due, int pack, int otherPack, int access) {
        Run run = run().type(CLASS, 0, pack, -1).type(CLASS, 0, otherPack, 0);
        run.member(0, 0, 0, FINAL, access, 0).member(1, 0, 0, 0, PUBLIC, 0);
        if (due) {
            run.faults(what, 1, 12, 1);
        } else {
            run.faults(what, 1);
        }
    }

    private static void sharedByAccess() {
        for (int pack = 0; pack < 4; pack++) {
            for (int other = 0; other < 4; other++) {
                shared("private", false, pack, other, PRIVATE);
                shared("package", pack == other, pack, other, PACKAGE);
                shared("protected", true, pack, other, PROTECTED);
                shared("public", true, pack, other, PUBLIC);
            }
        }
    }

    private static void sharedFromAbove() {
        for (int top : new int[] {0, 18, 19}) {
            Run run = chain(20).member(top, 0, 0, FINAL, PUBLIC, 0).member(19, 0, 0, 0, PUBLIC, 0);
            if (top == 19) {
                run.faults("one of itself is not SHARED with it", 19, 10, 1);
            } else {
                run.faults("one " + (19 - top) + " steps ABOVE", 19, 12, 1);
            }
        }
        Run below = chain(2).member(1, 0, 0, FINAL, PUBLIC, 0).member(0, 0, 0, 0, PUBLIC, 0);
        below.faults("one below", 0);
        Run beside = plainTypes(2).permit(1, 0).member(0, 0, 0, FINAL, PUBLIC, 0).member(1, 0, 0, 0, PUBLIC, 0);
        beside.faults("one of a PERMITTED TYPE", 1, 7, 0, 7, 1);
        Run across = run().type(CLASS, 0, 2, -1).type(CLASS, 0, 3, 0).type(CLASS, 0, 2, 1);
        across.member(0, 0, 0, FINAL, PACKAGE, 0).member(2, 0, 0, 0, PUBLIC, 0);
        across.faults("the same PACKAGE across another one", 2, 12, 1);
    }

    private static void sharedStatic() {
        Run face = run().type(FACE, 0, 0, -1).type(CLASS, 0, 0, -1).upper(1, 0);
        face.member(0, 0, 0, STATIC, PUBLIC, 1).member(1, 0, 0, 0, PUBLIC, 2);
        face.faults("STATIC in a FACE is not SHARED", 1);
        face.member(0, 1, 0, DEFAULT, PUBLIC, 1).member(1, 1, 0, 0, PUBLIC, 2);
        face.faults("DEFAULT in a FACE is", 1, 15, 3);
        Run other = chain(2).member(0, 0, 0, STATIC, PUBLIC, 1).member(1, 0, 0, STATIC, PUBLIC, 2);
        other.faults("STATIC in a CLASS is", 1, 15, 1);
        Run low = run().type(FACE, 0, 0, -1).type(FACE, 0, 0, -1).upper(1, 0);
        low.member(0, 0, 0, STATIC, PUBLIC, 1).member(1, 0, 0, STATIC, PUBLIC, 2);
        low.faults("nor with a FACE below", 1);
    }
}
