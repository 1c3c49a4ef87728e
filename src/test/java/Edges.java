/** What the tests of boundary cases have in common: the document's numbers by their names. */
abstract class Edges {
    static final int BAD = ClassRules.BAD, FULL = ClassRules.FULL, NONE = ClassRules.NONE, WRONG = ClassRules.WRONG;
    static final int CLASS = 0, FACE = 1, ENUM = 2, RECORD = 3;
    static final int ABSTRACT = 1, FINAL = 2, SEALED = 4, OPEN = 8;
    static final int STATIC = 4, DEFAULT = 8;
    static final int PRIVATE = 0, PACKAGE = 1, PROTECTED = 2, PUBLIC = 3;
    static final int TYPES = 20, MEMBERS = 80;

    static Run run() {
        return new Run();
    }

    /** As many classes without anything, each in package 0. */
    static Run plainTypes(int count) {
        Run run = run();
        for (int n = 0; n < count; n++) {
            run.type(CLASS, 0, 0, -1);
        }
        return run;
    }

    /** A chain of classes, each the parent of the next one told. */
    static Run chain(int length) {
        Run run = run();
        for (int n = 0; n < length; n++) {
            run.type(CLASS, 0, 0, n - 1);
        }
        return run;
    }

    /** All there is room for, and nothing wrong with it: 20 TYPES, each of the 17 classes with 3 UPPERS, 80 MEMBERS. */
    static Run fullRun() {
        Run run = run().type(FACE, 0, 0, -1).type(FACE, 0, 1, -1).type(FACE, 0, 2, -1);
        for (int n = 3; n < TYPES; n++) {
            run.type(CLASS, 0, n % 4, n == 3 ? -1 : n - 1).upper(n, 0).upper(n, 1).upper(n, 2);
        }
        run.member(0, 9, 4, DEFAULT, PUBLIC, 0).member(1, 9, 3, DEFAULT, PUBLIC, 0).member(2, 9, 2, DEFAULT, PUBLIC, 0);
        for (int n = 3; n < MEMBERS; n++) {
            int name = n / 17;
            run.member(3 + n % 17, name, n % 17 % 5, 0, name % 2 == 0 ? PUBLIC : PACKAGE, 0);
        }
        return run;
    }
}
