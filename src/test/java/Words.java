import java.util.ArrayList;
import java.util.HashSet;
import java.util.List;
import java.util.Set;
import java.util.TreeSet;

/** A second reading of the document, sentence by sentence, without a thought for speed. */
final class Words {
    record Member(int number, int type, int name, int params, int marks, int access, int result) {
        boolean isAbstract() {
            return (marks & 1) != 0;
        }

        boolean isFinal() {
            return (marks & 2) != 0;
        }

        boolean isStatic() {
            return (marks & 4) != 0;
        }

        boolean isDefault() {
            return (marks & 8) != 0;
        }

        boolean like(Member other) {
            return name == other.name && params == other.params;
        }
    }

    static final class Type {
        int number;
        int kind;
        int marks;
        int pack;
        int parent;
        final List<Integer> uppers = new ArrayList<>();
        final List<Integer> permitted = new ArrayList<>();

        boolean marked(int mark) {
            return (marks & mark) != 0;
        }

        List<Integer> next() {
            List<Integer> next = new ArrayList<>(uppers);
            if (parent >= 0) {
                next.add(parent);
            }
            return next;
        }
    }

    private final List<Type> types = new ArrayList<>();
    private final List<Member> members = new ArrayList<>();

    int type(int kind, int marks, int pack, int parent) {
        if (kind < 0 || kind > 3 || marks < 0 || marks > 15 || pack < 0 || pack > 3 || parent < -1 || parent > 19) {
            return -1;
        }
        if (types.size() == 20) {
            return -2;
        }
        Type type = new Type();
        type.number = types.size();
        type.kind = kind;
        type.marks = marks;
        type.pack = pack;
        type.parent = parent;
        types.add(type);
        return type.number;
    }

    int upper(int type, int other) {
        return !there(type) || other < 0 || other > 19 ? -1 : more(types.get(type).uppers, other);
    }

    int permit(int type, int other) {
        return !there(type) || other < 0 || other > 19 ? -1 : more(types.get(type).permitted, other);
    }

    private static int more(List<Integer> list, int other) {
        if (list.size() == 3) {
            return -2;
        }
        list.add(other);
        return list.size();
    }

    int member(int type, int name, int params, int marks, int access, int result) {
        if (!there(type) || noSuch(name, params) || marks < 0 || marks > 15 || access < 0 || access > 3
                || result < 0 || result > 29) {
            return -1;
        }
        if (members.size() == 80) {
            return -2;
        }
        members.add(new Member(members.size(), type, name, params, marks, access, result));
        return members.size() - 1;
    }

    int faults(int type) {
        return there(type) ? faultsOf(type).size() : -1;
    }

    int fault(int type, int k, int what) {
        if (!there(type) || what < 0 || what > 1 || k < 0 || k >= faultsOf(type).size()) {
            return -1;
        }
        int both = new ArrayList<>(faultsOf(type)).get(k);
        return what == 0 ? both / 1000 : both % 1000;
    }

    int all() {
        int sum = 0;
        for (Type type : types) {
            sum += faults(type.number);
        }
        return sum;
    }

    int is(int type, int other) {
        return !there(type) || !there(other) ? -1 : isA(type, other) ? 1 : 0;
    }

    int runs(int type, int name, int params) {
        if (!there(type) || noSuch(name, params)) {
            return -1;
        }
        return noObject(type) ? -4 : numberOf(whatRuns(type, name, params));
    }

    int call(int type, int object, int name, int params) {
        if (!there(type) || !there(object) || noSuch(name, params)) {
            return -1;
        }
        return noObject(object) || !isA(object, type) ? -4 : numberOf(whatIsCalled(type, object, name, params));
    }

    int told(int what) {
        return what == 0 ? types.size() : what == 1 ? members.size() : -1;
    }

    /** For the test that tells it what to hold: the KIND of a TYPE, -1 if it is not there. */
    int kindOf(int type) {
        return there(type) ? types.get(type).kind : -1;
    }

    void takeBackMember() {
        members.remove(members.size() - 1);
    }

    void takeBackUpper(int type) {
        List<Integer> uppers = types.get(type).uppers;
        uppers.remove(uppers.size() - 1);
    }

    private boolean there(int type) {
        return type >= 0 && type < types.size();
    }

    private static boolean noSuch(int name, int params) {
        return name < 0 || name > 9 || params < 0 || params > 4;
    }

    private static int numberOf(Member member) {
        return member == null ? -3 : member.number;
    }

    private boolean noObject(int type) {
        if (types.get(type).kind == 1 || types.get(type).marked(1) || faults(type) > 0) {
            return true;
        }
        return above(type).stream().anyMatch(a -> faults(a) > 0);
    }

    private Set<Integer> above(int type) {
        Set<Integer> above = new HashSet<>();
        List<Integer> open = new ArrayList<>(types.get(type).next());
        while (!open.isEmpty()) {
            int next = open.remove(open.size() - 1);
            if (there(next) && above.add(next)) {
                open.addAll(types.get(next).next());
            }
        }
        return above;
    }

    private boolean isA(int type, int other) {
        return type == other || above(type).contains(other);
    }

    private boolean shared(Member m, int type) {
        if (!above(type).contains(m.type) || m.access == 0) {
            return false;
        }
        boolean seen = m.access == 3 || m.access == 2 || types.get(m.type).pack == types.get(type).pack;
        return seen && !(m.isStatic() && types.get(m.type).kind == 1);
    }

    /** Each as its kind times 1000, and its number: a sorted set of these is in the document's order. */
    private TreeSet<Integer> faultsOf(int number) {
        TreeSet<Integer> found = first(number);
        Type type = types.get(number);
        marksAndSealing(type, found);
        alone(number, found);
        boolean stop = !first(number).isEmpty();
        for (int a : above(number)) {
            stop = stop || !first(a).isEmpty();
        }
        if (!stop) {
            inherited(number, found);
            given(type, found);
        }
        return found;
    }

    private TreeSet<Integer> first(int number) {
        TreeSet<Integer> found = new TreeSet<>();
        Type type = types.get(number);
        List<Integer> named = type.next();
        named.addAll(type.permitted);
        for (int other : named) {
            if (!there(other)) {
                found.add(1000 + other);
            }
        }
        if (above(number).contains(number)) {
            found.add(2000 + number);
        }
        boolean parentIsClass = there(type.parent) && types.get(type.parent).kind == 0;
        if (type.parent >= 0 && (!parentIsClass || type.kind != 0)) {
            found.add(3000 + type.parent);
        }
        for (int upper : type.uppers) {
            if (!there(upper) || types.get(upper).kind != 1) {
                found.add(3000 + upper);
            }
        }
        return found;
    }

    private void marksAndSealing(Type type, TreeSet<Integer> found) {
        int number = type.number;
        if (there(type.parent) && types.get(type.parent).marked(2)) {
            found.add(4000 + type.parent);
        }
        int several = (type.marked(2) ? 1 : 0) + (type.marked(4) ? 1 : 0) + (type.marked(8) ? 1 : 0);
        if (several >= 2 || type.marked(1) && type.marked(2) || type.kind == 1 && type.marked(2)
                || type.kind >= 2 && type.marks != 0) {
            found.add(5000 + number);
        }
        boolean underSealed = false;
        for (int other : type.next()) {
            if (there(other) && types.get(other).marked(4)) {
                underSealed = true;
                if (!types.get(other).permitted.contains(number) || type.kind < 2 && several == 0) {
                    found.add(6000 + other);
                }
            }
        }
        if (type.marked(8) && !underSealed) {
            found.add(6000 + number);
        }
        int permitted = 0;
        for (int other : type.permitted) {
            if (there(other)) {
                permitted++;
                if (types.get(other).parent != number && !types.get(other).uppers.contains(number)) {
                    found.add(7000 + other);
                }
            }
        }
        if (permitted > 0 && !type.marked(4) || permitted == 0 && type.marked(4)) {
            found.add(7000 + number);
        }
        for (int upper : type.uppers) {
            if (there(upper) && type.uppers.indexOf(upper) != type.uppers.lastIndexOf(upper)) {
                found.add(8000 + upper);
            }
        }
    }

    private void alone(int number, TreeSet<Integer> found) {
        Type type = types.get(number);
        for (Member m : members) {
            if (m.type != number) {
                continue;
            }
            for (Member other : members) {
                if (other.type == number && other.number < m.number && other.like(m)) {
                    found.add(10000 + m.number);
                }
            }
            boolean wrong;
            if (type.kind == 1) {
                int ways = (m.isAbstract() ? 1 : 0) + (m.isDefault() ? 1 : 0) + (m.isStatic() ? 1 : 0)
                        + (m.access == 0 ? 1 : 0);
                wrong = m.isFinal() || m.access == 1 || m.access == 2 || ways != 1;
            } else {
                wrong = m.isDefault() || m.isAbstract() && (m.isFinal() || m.isStatic() || m.access == 0)
                        || m.isAbstract() && !(type.kind == 0 && type.marked(1));
            }
            if (wrong) {
                found.add(11000 + m.number);
            }
        }
    }

    private void inherited(int number, TreeSet<Integer> found) {
        for (Member m : members) {
            for (Member one : members) {
                if (m.type != number || m.access == 0 || !one.like(m) || !shared(one, number)) {
                    continue;
                }
                if (one.isFinal()) {
                    found.add(12000 + m.number);
                }
                if (one.isStatic() != m.isStatic()) {
                    found.add(13000 + m.number);
                }
                if (one.access > m.access) {
                    found.add(14000 + m.number);
                }
                boolean both = there(m.result - 10) && there(one.result - 10);
                if (m.result != one.result && !(both && isA(m.result - 10, one.result - 10))) {
                    found.add(15000 + m.number);
                }
            }
        }
    }

    private void given(Type type, TreeSet<Integer> found) {
        for (int name = 0; name < 10; name++) {
            for (int params = 0; params < 5; params++) {
                if (!anySuch(name, params)) {
                    continue;
                }
                Member classOne = classOne(type.number, name, params);
                List<Member> faceOnes = faceOnes(type.number, name, params);
                List<Member> toBeGiven = new ArrayList<>();
                boolean anyDefault = faceOnes.stream().anyMatch(Member::isDefault);
                if (classOne != null && classOne.isAbstract()) {
                    toBeGiven.add(classOne);
                } else if (classOne == null && !anyDefault) {
                    faceOnes.stream().filter(Member::isAbstract).forEach(toBeGiven::add);
                }
                if (type.kind != 1 && !type.marked(1) && !toBeGiven.isEmpty()) {
                    found.add(16000 + toBeGiven.stream().mapToInt(Member::number).min().getAsInt());
                }
                if (faceOnes.size() >= 2 && anyDefault && classOne == null) {
                    found.add(17000 + faceOnes.stream().mapToInt(Member::number).min().getAsInt());
                }
            }
        }
    }

    private boolean anySuch(int name, int params) {
        return members.stream().anyMatch(m -> m.name == name && m.params == params);
    }

    private Member classOne(int type, int name, int params) {
        if (types.get(type).kind == 1) {
            return null;
        }
        for (int at = type; there(at); at = types.get(at).parent) {
            for (Member m : members) {
                if (m.type == at && m.name == name && m.params == params && !m.isStatic()
                        && (at == type || shared(m, type))) {
                    return m;
                }
            }
        }
        return null;
    }

    private Member leastOfFace(int face, int name, int params) {
        for (Member m : members) {
            if (m.type == face && m.name == name && m.params == params && !m.isStatic() && m.access != 0) {
                return m;
            }
        }
        return null;
    }

    private List<Member> faceOnes(int type, int name, int params) {
        List<Member> ones = new ArrayList<>();
        for (Type face : types) {
            Member m = leastOfFace(face.number, name, params);
            boolean out = face.kind != 1 || !isA(type, face.number) || m == null;
            for (Type other : types) {
                out = out || other != face && other.kind == 1 && isA(type, other.number)
                        && above(other.number).contains(face.number)
                        && leastOfFace(other.number, name, params) != null;
            }
            if (!out) {
                ones.add(m);
            }
        }
        return ones;
    }

    private Member whatRuns(int type, int name, int params) {
        Member classOne = classOne(type, name, params);
        if (classOne != null) {
            return classOne.isAbstract() ? null : classOne;
        }
        List<Member> faceOnes = faceOnes(type, name, params);
        return faceOnes.size() == 1 && faceOnes.get(0).isDefault() ? faceOnes.get(0) : null;
    }

    private Member whatIsCalled(int type, int object, int name, int params) {
        Member meant = classOne(type, name, params);
        if (meant == null) {
            for (Member m : faceOnes(type, name, params)) {
                meant = meant == null || m.number < meant.number ? m : meant;
            }
        }
        if (meant == null || meant.access == 0) {
            return meant;
        }
        if (types.get(meant.type).kind == 1) {
            return whatRuns(object, name, params);
        }
        for (int at = object; there(at); at = types.get(at).parent) {
            for (Member m : members) {
                if (m.type == at && (m == meant || takesPlace(m, meant))) {
                    return m.isAbstract() ? null : m;
                }
            }
        }
        return null;
    }

    private boolean takesPlace(Member n, Member m) {
        if (types.get(n.type).kind == 1 || types.get(m.type).kind == 1 || !n.like(m)) {
            return false;
        }
        if (n.isStatic() || m.isStatic() || n.access == 0 || m.access == 0) {
            return false;
        }
        if (n.type == m.type || !above(n.type).contains(m.type)) {
            return false;
        }
        if (m.access >= 2 || types.get(n.type).pack == types.get(m.type).pack) {
            return true;
        }
        for (Member k : members) {
            if (above(n.type).contains(k.type) && takesPlace(k, m) && takesPlace(n, k)) {
                return true;
            }
        }
        return false;
    }
}
