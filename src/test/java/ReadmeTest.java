/** The example of README.md, each line with the answer that is told beside it. */
final class ReadmeTest {
    public static void main(String[] args) {
        ClassRules r = new ClassRules();
        int shape = r.type(0, 1, 0, -1);
        int round = r.type(0, 0, 0, shape);
        r.member(shape, 3, 0, 1, 3, 0);
        Due.same("something is left to be given", r.faults(round), 1);
        Due.same("the kind of the fault", r.fault(round, 0, 0), 16);
        Due.same("the member that is to be given", r.fault(round, 0, 1), 0);
        int own = r.member(round, 3, 0, 0, 3, 0);
        Due.same("nothing is wrong", r.all(), 0);
        Due.same("the call", r.call(shape, round, 3, 0), own);
        Due.end();
    }
}
