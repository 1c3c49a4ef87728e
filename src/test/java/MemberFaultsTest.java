/** Promises 6 to 8: faults 10 to 17. */
final class MemberFaultsTest {
    private static final int CLASS = 0, FACE = 1, ENUM = 2, RECORD = 3;
    private static final int ABSTRACT = 1, FINAL = 2, STATIC = 4, DEFAULT = 8;
    private static final int PRIVATE = 0, PACKAGE = 1, PROTECTED = 2, PUBLIC = 3;

    public static void main(String[] args) {
        doubled();
        marksInFaces();
        marksElsewhere();
        noMoreWhenShaky();
        finalOnes();
        statics();
        accesses();
        results();
        sharedOnes();
        toBeGiven();
        rivals();
        coveredFaces();
        afterChanges();
        Due.end();
    }

    private static void doubled() {
        ClassRules r = new ClassRules();
        r.type(CLASS, 0, 0, -1);
        r.type(CLASS, 0, 0, -1);
        r.member(0, 1, 1, 0, PUBLIC, 0);
        r.member(1, 1, 1, 0, PUBLIC, 0);
        r.member(0, 1, 2, 0, PUBLIC, 0);
        r.member(0, 2, 1, 0, PUBLIC, 0);
        Due.faults("none alike", r, 0);
        r.member(0, 1, 1, STATIC, PRIVATE, 5);
        r.member(0, 1, 1, 0, PUBLIC, 0);
        Due.faults("alike, whatever their marks", r, 0, 10, 4, 10, 5);
        Due.faults("another type", r, 1);
    }

    private static void marksInFaces() {
        for (int marks = 0; marks < 16; marks++) {
            for (int access = 0; access < 4; access++) {
                ClassRules r = new ClassRules();
                r.type(FACE, ABSTRACT, 0, -1);
                r.member(0, 0, 0, marks, access, 0);
                boolean fine = access == PUBLIC && (marks == ABSTRACT || marks == DEFAULT || marks == STATIC)
                        || access == PRIVATE && marks == 0;
                check11("a face's member " + marks + ", " + access, r, fine);
            }
        }
    }

    private static void marksElsewhere() {
        for (int kind = 0; kind < 4; kind++) {
            for (int typeMarks = 0; typeMarks < 2 && kind != FACE; typeMarks++) {
                for (int marks = 0; marks < 16; marks++) {
                    for (int access = 0; access < 4; access++) {
                        ClassRules r = new ClassRules();
                        r.type(kind, typeMarks, 0, -1);
                        r.member(0, 0, 0, marks, access, 0);
                        boolean plain = marks == 0 || marks == FINAL || marks == STATIC || marks == (FINAL | STATIC);
                        boolean fine = plain
                                || marks == ABSTRACT && access != PRIVATE && kind == CLASS && typeMarks == ABSTRACT;
                        check11("kind " + kind + ", " + typeMarks + ": member " + marks + ", " + access, r, fine);
                    }
                }
            }
        }
    }

    private static void check11(String what, ClassRules r, boolean fine) {
        int found = 0;
        for (int k = 0; k < r.faults(0); k++) {
            found += r.fault(0, k, 0) == 11 && r.fault(0, k, 1) == 0 ? 1 : 0;
        }
        Due.same(what, found, fine ? 0 : 1);
    }

    private static void noMoreWhenShaky() {
        ClassRules r = new ClassRules();
        r.type(CLASS, 0, 0, -1);
        r.type(CLASS, 0, 0, 0);
        r.type(CLASS, 0, 0, 1);
        r.type(FACE, 0, 0, -1);
        r.type(FACE, 0, 0, -1);
        r.upper(2, 3);
        r.upper(2, 4);
        r.member(0, 0, 0, FINAL, PUBLIC, 0);
        r.member(2, 0, 0, 0, PUBLIC, 0);
        r.member(3, 1, 0, DEFAULT, PUBLIC, 0);
        r.member(4, 1, 0, DEFAULT, PUBLIC, 0);
        r.member(4, 2, 0, ABSTRACT, PUBLIC, 0);
        Due.faults("nothing shaky", r, 2, 12, 1, 16, 4, 17, 2);
        r.permit(0, 19);
        Due.faults("one above misses a type: no more", r, 2);
        ClassRules ring = new ClassRules();
        ring.type(CLASS, 0, 0, 0);
        ring.type(CLASS, 0, 0, 0);
        ring.member(0, 0, 0, FINAL, PUBLIC, 0);
        ring.member(1, 0, 0, 0, PRIVATE, 0);
        ring.member(1, 1, 0, ABSTRACT, PUBLIC, 0);
        ring.member(1, 1, 0, 0, PUBLIC, 0);
        Due.faults("a ring above: 10 and 11 stay", ring, 1, 10, 3, 11, 2);
        Due.faults("no faults by members of its own ring", ring, 0, 2, 0);
        ClassRules kind = new ClassRules();
        kind.type(ENUM, 0, 0, -1);
        kind.type(CLASS, 0, 0, 0);
        kind.type(CLASS, 0, 0, 1);
        kind.member(1, 0, 0, FINAL, PUBLIC, 0);
        kind.member(2, 0, 0, 0, PUBLIC, 0);
        Due.faults("a wrong kind above", kind, 2);
        ClassRules late = new ClassRules();
        late.type(CLASS, 0, 0, 1);
        late.type(CLASS, 0, 0, -1);
        late.member(0, 0, 0, 0, PUBLIC, 0);
        late.member(1, 0, 0, FINAL, PUBLIC, 0);
        Due.faults("member 0 over the last, type 0 below the last", late, 0, 12, 0);
        late.permit(1, 19);
        Due.faults("the last type told misses one", late, 0);
        ClassRules soft = new ClassRules();
        soft.type(CLASS, FINAL, 0, -1);
        soft.type(CLASS, 0, 0, 0);
        soft.member(0, 0, 0, FINAL, PUBLIC, 0);
        soft.member(1, 0, 0, 0, PUBLIC, 0);
        Due.faults("other faults do not stop", soft, 1, 4, 0, 12, 1);
    }

    /** Two classes, the second below the first, in packages 0 and 1 or both in 0, with one member each. */
    private static ClassRules pair(int pack, int[] upper, int[] lower) {
        ClassRules r = new ClassRules();
        r.type(CLASS, ABSTRACT, 0, -1);
        r.type(CLASS, ABSTRACT, pack, 0);
        r.member(0, 3, 2, upper[0], upper[1], upper[2]);
        r.member(1, 3, 2, lower[0], lower[1], lower[2]);
        return r;
    }

    private static int[] m(int marks, int access, int result) {
        return new int[] {marks, access, result};
    }

    private static void finalOnes() {
        Due.faults("final", pair(0, m(FINAL, PUBLIC, 0), m(0, PUBLIC, 0)), 1, 12, 1);
        Due.faults("a private one is not judged", pair(0, m(FINAL, PUBLIC, 0), m(0, PRIVATE, 0)), 1);
        Due.faults("over a private one", pair(0, m(FINAL, PRIVATE, 0), m(0, PUBLIC, 0)), 1);
        Due.faults("of the package", pair(0, m(FINAL, PACKAGE, 0), m(0, PACKAGE, 0)), 1, 12, 1);
        Due.faults("of another package", pair(1, m(FINAL, PACKAGE, 0), m(0, PACKAGE, 0)), 1);
        Due.faults("protected, another package", pair(1, m(FINAL, PROTECTED, 0), m(0, PROTECTED, 0)), 1, 12, 1);
        Due.faults("final below", pair(0, m(0, PUBLIC, 0), m(FINAL, PUBLIC, 0)), 1);
        Due.faults("the upper one has none", pair(0, m(FINAL, PUBLIC, 0), m(0, PUBLIC, 0)), 0);
        ClassRules r = pair(0, m(FINAL, PUBLIC, 0), m(0, PRIVATE, 0));
        r.member(1, 3, 1, 0, PUBLIC, 0);
        r.member(1, 2, 2, 0, PUBLIC, 0);
        Due.faults("not alike", r, 1);
    }

    private static void statics() {
        Due.faults("static over not", pair(0, m(0, PUBLIC, 0), m(STATIC, PUBLIC, 0)), 1, 13, 1);
        Due.faults("not over static", pair(0, m(STATIC, PUBLIC, 0), m(0, PUBLIC, 0)), 1, 13, 1);
        Due.faults("static over static", pair(0, m(STATIC, PUBLIC, 0), m(STATIC, PUBLIC, 0)), 1);
        ClassRules r = new ClassRules();
        r.type(FACE, 0, 0, -1);
        r.type(CLASS, 0, 0, -1);
        r.upper(1, 0);
        r.member(0, 0, 0, STATIC, PUBLIC, 0);
        r.member(1, 0, 0, 0, PUBLIC, 5);
        Due.faults("static in a face is not shared", r, 1);
    }

    private static void accesses() {
        for (int over = 0; over < 4; over++) {
            for (int under = 0; under < 4; under++) {
                ClassRules r = pair(0, m(0, over, 0), m(0, under, 0));
                boolean wrong = over != PRIVATE && under != PRIVATE && over > under;
                Due.same("access " + under + " over " + over, r.faults(1), wrong ? 1 : 0);
                Due.same("its kind", r.fault(1, 0, 0), wrong ? 14 : ClassRules.BAD);
            }
        }
        ClassRules r = new ClassRules();
        r.type(CLASS, 0, 0, -1);
        r.type(CLASS, 0, 1, 0);
        r.type(CLASS, 0, 0, 1);
        r.member(0, 0, 0, 0, PROTECTED, 0);
        r.member(2, 0, 0, 0, PACKAGE, 0);
        Due.faults("two steps above", r, 2, 14, 1);
    }

    private static void results() {
        Due.faults("the same plain one", pair(0, m(0, PUBLIC, 9), m(0, PUBLIC, 9)), 1);
        Due.faults("another plain one", pair(0, m(0, PUBLIC, 9), m(0, PUBLIC, 8)), 1, 15, 1);
        Due.faults("a type that is that", pair(0, m(0, PUBLIC, 10), m(0, PUBLIC, 11)), 1);
        Due.faults("a type above that", pair(0, m(0, PUBLIC, 11), m(0, PUBLIC, 10)), 1, 15, 1);
        Due.faults("plain over a type", pair(0, m(0, PUBLIC, 10), m(0, PUBLIC, 0)), 1, 15, 1);
        Due.faults("a type over plain", pair(0, m(0, PUBLIC, 0), m(0, PUBLIC, 10)), 1, 15, 1);
        Due.faults("the same type, not there", pair(0, m(0, PUBLIC, 29), m(0, PUBLIC, 29)), 1);
        Due.faults("another one, not there", pair(0, m(0, PUBLIC, 10), m(0, PUBLIC, 29)), 1, 15, 1);
        Due.faults("over one that is not there", pair(0, m(0, PUBLIC, 29), m(0, PUBLIC, 10)), 1, 15, 1);
        ClassRules r = pair(0, m(0, PUBLIC, 13), m(0, PUBLIC, 12));
        r.type(CLASS, 0, 0, 3);
        Due.faults("its parent is not there yet", r, 1, 15, 1);
        r.type(CLASS, 0, 0, -1);
        Due.faults("now it is", r, 1);
        ClassRules two = new ClassRules();
        two.type(FACE, 0, 0, -1);
        two.type(FACE, 0, 0, -1);
        two.type(CLASS, 0, 0, -1);
        two.upper(2, 0);
        two.upper(2, 1);
        two.member(0, 0, 0, ABSTRACT, PUBLIC, 1);
        two.member(1, 0, 0, ABSTRACT, PUBLIC, 2);
        two.member(2, 0, 0, 0, PUBLIC, 1);
        Due.faults("one of two differs", two, 2, 15, 2);
    }

    private static void sharedOnes() {
        ClassRules r = new ClassRules();
        r.type(CLASS, ABSTRACT, 0, -1);
        r.type(CLASS, ABSTRACT, 1, 0);
        r.type(CLASS, 0, 1, 1);
        r.member(0, 0, 0, ABSTRACT, PACKAGE, 0);
        r.member(1, 1, 0, ABSTRACT, PACKAGE, 0);
        Due.faults("only that of the package is to be given", r, 2, 16, 1);
        r.member(2, 1, 0, STATIC | FINAL, PACKAGE, 3);
        Due.faults("a static one gives nothing", r, 2, 13, 2, 15, 2, 16, 1);
        r.member(2, 0, 0, STATIC | FINAL, PACKAGE, 3);
        Due.faults("over one that is not shared", r, 2, 13, 2, 15, 2, 16, 1);
    }

    private static void toBeGiven() {
        ClassRules r = new ClassRules();
        r.type(CLASS, ABSTRACT, 0, -1);
        r.type(CLASS, 0, 0, 0);
        r.member(0, 5, 1, ABSTRACT, PUBLIC, 0);
        r.member(0, 4, 2, ABSTRACT, PUBLIC, 0);
        r.member(0, 3, 3, 0, PUBLIC, 0);
        Due.faults("an abstract class owes nothing", r, 0);
        Due.faults("each name and params", r, 1, 16, 0, 16, 1);
        r.type(CLASS, ABSTRACT, 0, 0);
        Due.faults("an abstract class below", r, 2);
        r.member(2, 5, 1, 0, PUBLIC, 0);
        r.type(CLASS, 0, 0, 2);
        Due.faults("one is given on the way", r, 3, 16, 1);
        r.member(1, 4, 2, 0, PUBLIC, 0);
        r.member(1, 5, 1, 0, PUBLIC, 0);
        Due.faults("all given", r, 1);
        ClassRules f = new ClassRules();
        f.type(FACE, 0, 0, -1);
        f.type(FACE, 0, 0, -1);
        f.upper(1, 0);
        int[] low = {f.type(CLASS, 0, 0, -1), f.type(ENUM, 0, 0, -1), f.type(RECORD, 0, 0, -1)};
        f.type(FACE, 0, 0, -1);
        f.member(5, 0, 0, ABSTRACT, PUBLIC, 0);
        f.member(1, 0, 0, ABSTRACT, PUBLIC, 0);
        f.member(0, 1, 0, ABSTRACT, PUBLIC, 0);
        Due.faults("a face owes nothing", f, 1);
        for (int type : low) {
            f.upper(type, 1);
            f.upper(type, 5);
            Due.faults("the least of two faces", f, type, 16, 0, 16, 2);
            f.member(type, 0, 0, 0, PUBLIC, 0);
            Due.faults("its own gives one", f, type, 16, 2);
        }
        ClassRules p = new ClassRules();
        p.type(FACE, 0, 0, -1);
        p.type(CLASS, 0, 0, -1);
        p.type(CLASS, 0, 0, 1);
        p.upper(2, 0);
        p.member(0, 0, 0, ABSTRACT, PUBLIC, 0);
        p.member(1, 0, 0, 0, PRIVATE, 0);
        Due.faults("a private one above gives nothing", p, 2, 16, 0);
        p.member(1, 0, 0, 0, PUBLIC, 0);
        Due.faults("a second one alike, which is shared", p, 2);
        ClassRules own = new ClassRules();
        own.type(FACE, 0, 0, -1);
        own.type(CLASS, 0, 0, -1);
        own.upper(1, 0);
        own.member(0, 0, 0, ABSTRACT, PUBLIC, 0);
        own.member(1, 0, 0, 0, PRIVATE, 7);
        Due.faults("its own private one is the class one", own, 1);
        ClassRules two = new ClassRules();
        two.type(CLASS, 0, 0, -1);
        two.member(0, 0, 0, ABSTRACT, PUBLIC, 0);
        two.member(0, 0, 0, 0, PUBLIC, 0);
        Due.faults("of two in one type the least", two, 0, 10, 1, 11, 0, 16, 0);
        ClassRules both = new ClassRules();
        both.type(FACE, 0, 0, -1);
        both.type(CLASS, 0, 0, -1);
        both.upper(1, 0);
        both.member(0, 0, 0, ABSTRACT | DEFAULT, PUBLIC, 0);
        Due.faults("abstract and default together owes nothing", both, 1);
    }

    private static void rivals() {
        ClassRules r = new ClassRules();
        r.type(FACE, 0, 0, -1);
        r.type(FACE, 0, 0, -1);
        r.type(FACE, 0, 0, -1);
        r.type(CLASS, ABSTRACT, 0, -1);
        r.type(CLASS, 0, 0, -1);
        for (int low = 2; low < 5; low++) {
            r.upper(low, 0);
            r.upper(low, 1);
        }
        r.member(1, 0, 0, ABSTRACT, PUBLIC, 0);
        r.member(0, 0, 0, ABSTRACT, PUBLIC, 0);
        r.member(1, 1, 1, ABSTRACT, PUBLIC, 0);
        r.member(0, 1, 1, DEFAULT, PUBLIC, 0);
        Due.faults("a face", r, 2, 17, 2);
        Due.faults("an abstract class", r, 3, 17, 2);
        Due.faults("a class: abstract ones are to be given, rivals are not", r, 4, 16, 0, 17, 2);
        r.member(2, 1, 1, ABSTRACT, PUBLIC, 0);
        r.member(3, 1, 1, ABSTRACT, PUBLIC, 0);
        Due.faults("the face has its own", r, 2);
        Due.faults("an abstract class one settles it", r, 3);
        r.type(CLASS, 0, 0, -1);
        r.upper(5, 0);
        r.upper(5, 1);
        r.member(5, 1, 1, STATIC, PUBLIC, 0);
        Due.faults("a static one does not settle it", r, 5, 13, 6, 16, 0, 17, 2);
        ClassRules s = new ClassRules();
        s.type(FACE, 0, 0, -1);
        s.type(FACE, 0, 0, -1);
        s.type(CLASS, 0, 0, -1);
        s.upper(2, 0);
        s.upper(2, 1);
        s.member(0, 0, 0, STATIC, PUBLIC, 0);
        s.member(1, 0, 0, DEFAULT, PUBLIC, 0);
        s.member(0, 1, 0, 0, PRIVATE, 0);
        s.member(1, 1, 0, DEFAULT, PUBLIC, 0);
        Due.faults("static and private ones are no rivals", s, 2);
        s.member(0, 1, 0, DEFAULT, PUBLIC, 0);
        s.member(0, 1, 0, DEFAULT, PUBLIC, 0);
        Due.faults("the least, being no private one", s, 2, 17, 3);
    }

    private static void coveredFaces() {
        ClassRules r = new ClassRules();
        r.type(FACE, 0, 0, -1);
        r.type(FACE, 0, 0, -1);
        r.type(FACE, 0, 0, -1);
        r.type(CLASS, 0, 0, -1);
        r.upper(1, 0);
        r.upper(2, 1);
        r.upper(3, 0);
        r.upper(3, 2);
        r.member(0, 0, 0, DEFAULT, PUBLIC, 0);
        r.member(2, 0, 0, ABSTRACT, PUBLIC, 0);
        Due.faults("a face two steps below has such a one", r, 3, 16, 1);
        ClassRules two = new ClassRules();
        for (int n = 0; n < 4; n++) {
            two.type(FACE, 0, 0, -1);
            two.member(n, 0, 0, DEFAULT, PUBLIC, 0);
        }
        two.upper(2, 0);
        two.upper(3, 1);
        two.type(CLASS, 0, 0, -1);
        two.upper(4, 0);
        two.upper(4, 2);
        two.upper(4, 3);
        Due.faults("two faces, each with one above", two, 4, 17, 2);
        r.type(CLASS, 0, 0, -1);
        r.upper(4, 0);
        Due.faults("that face is not above this type", r, 4);
        r.type(FACE, 0, 0, -1);
        r.upper(5, 0);
        r.member(5, 0, 0, STATIC, PUBLIC, 0);
        r.upper(4, 5);
        Due.faults("a static one covers nothing", r, 4);
        Due.same("and the default one runs", r.runs(4, 0, 0), ClassRules.WRONG);
        Due.faults("for its face has a fault", r, 5, 13, 2);
    }

    private static void afterChanges() {
        ClassRules r = new ClassRules();
        r.type(CLASS, 0, 0, -1);
        r.type(CLASS, 0, 0, 0);
        Due.same("nothing wrong", r.all(), 0);
        r.member(0, 0, 0, ABSTRACT, PUBLIC, 0);
        Due.same("a member changes both", r.all(), 3);
        Due.faults("the lower one", r, 1, 16, 0);
        r.member(1, 0, 0, 0, PUBLIC, 0);
        Due.faults("mended", r, 1);
        Due.faults("the upper one", r, 0, 11, 0, 16, 0);
        r.permit(0, 1);
        Due.faults("permit", r, 0, 7, 0, 11, 0, 16, 0);
        r.upper(0, 1);
        Due.faults("upper", r, 0, 2, 0, 3, 1, 7, 0, 11, 0);
        Due.same("a call that is refused changes nothing", r.upper(0, 20), ClassRules.BAD);
        Due.faults("as before", r, 0, 2, 0, 3, 1, 7, 0, 11, 0);
    }
}
