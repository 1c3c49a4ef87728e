import java.util.Arrays;

/**
 * Declarations of types, judged by rules; and, where nothing is wrong, which member runs.
 *
 * Sets of TYPES are ints with a bit for each TYPE. All rows are made with the object; no call makes another one.
 */
public final class ClassRules {
    public static final int BAD = -1, FULL = -2, NONE = -3, WRONG = -4;

    private static final int MOST_TYPES = 20, MOST_NAMED = 3, MOST_MEMBERS = 80;
    private static final int KINDS = 4, MARK_SETS = 16, PACKAGES = 4, ACCESSES = 4, NAMES = 10, PARAMS = 5;
    private static final int PLAIN_RESULTS = 10, RESULTS = PLAIN_RESULTS + MOST_TYPES;

    private static final int CLASS = 0, FACE = 1;
    private static final int ABSTRACT = 1, FINAL = 2;
    private static final int SEALED = 4, OPEN = 8;
    private static final int STATIC = 4, DEFAULT = 8;
    private static final int PRIVATE = 0, PACKAGE = 1, PROTECTED = 2;

    /** No TYPE, no MEMBER: what the inner classes answer where there is none. */
    private static final int NOTHING = -1;

    private final Types types;
    private final Members members;
    private final Choice choice;
    private final Judge judge;

    public ClassRules() {
        types = new Types();
        members = new Members(types);
        choice = new Choice(types, members);
        judge = new Judge(types, members, choice);
    }

    public int type(int kind, int marks, int pack, int parent) {
        if (!within(kind, KINDS) || !within(marks, MARK_SETS) || !within(pack, PACKAGES)) {
            return BAD;
        }
        if (parent != NOTHING && !within(parent, MOST_TYPES)) {
            return BAD;
        }
        if (types.count >= MOST_TYPES) {
            return FULL;
        }
        judge.forget();
        return types.addType(kind, marks, pack, parent);
    }

    public int upper(int type, int other) {
        if (!types.there(type) || !within(other, MOST_TYPES)) {
            return BAD;
        }
        if (types.uppersTold[type] >= MOST_NAMED) {
            return FULL;
        }
        judge.forget();
        return types.addUpper(type, other);
    }

    public int permit(int type, int other) {
        if (!types.there(type) || !within(other, MOST_TYPES)) {
            return BAD;
        }
        if (types.permittedTold[type] >= MOST_NAMED) {
            return FULL;
        }
        judge.forget();
        return types.addPermitted(type, other);
    }

    public int member(int type, int name, int params, int marks, int access, int result) {
        if (!types.there(type) || !within(name, NAMES) || !within(params, PARAMS)) {
            return BAD;
        }
        if (!within(marks, MARK_SETS) || !within(access, ACCESSES) || !within(result, RESULTS)) {
            return BAD;
        }
        if (members.count >= MOST_MEMBERS) {
            return FULL;
        }
        judge.forget();
        return members.addMember(type, name, params, marks, access, result);
    }

    public int faults(int type) {
        return types.there(type) ? judge.countOf(type) : BAD;
    }

    public int fault(int type, int k, int what) {
        if (!types.there(type) || !within(what, 2) || !within(k, judge.countOf(type))) {
            return BAD;
        }
        return what == 0 ? judge.kindAt(type, k) : judge.numberAt(type, k);
    }

    public int all() {
        int sum = 0;
        for (int type = 0; type < types.count; type++) {
            sum += judge.countOf(type);
        }
        return sum;
    }

    public int is(int type, int other) {
        if (!types.there(type) || !types.there(other)) {
            return BAD;
        }
        return types.stands(type, other) ? 1 : 0;
    }

    public int runs(int type, int name, int params) {
        if (!types.there(type) || !within(name, NAMES) || !within(params, PARAMS)) {
            return BAD;
        }
        if (!canBeMade(type)) {
            return WRONG;
        }
        return orNone(choice.running(type, name, params));
    }

    public int call(int type, int object, int name, int params) {
        if (!types.there(type) || !types.there(object) || !within(name, NAMES) || !within(params, PARAMS)) {
            return BAD;
        }
        if (!canBeMade(object) || !types.stands(object, type)) {
            return WRONG;
        }
        return orNone(choice.reached(type, object, name, params));
    }

    public int told(int what) {
        if (what == 0) {
            return types.count;
        }
        return what == 1 ? members.count : BAD;
    }

    /** Whether there can be objects of a TYPE: neither it nor one above has a fault, and it is to be made at all. */
    private boolean canBeMade(int type) {
        if (types.kinds[type] == FACE || types.marked(type, ABSTRACT)) {
            return false;
        }
        for (int other = 0; other < types.count; other++) {
            if (types.stands(type, other) && judge.countOf(other) > 0) {
                return false;
            }
        }
        return true;
    }

    private static boolean within(int value, int bound) {
        return value >= 0 && value < bound;
    }

    private static int orNone(int member) {
        return member == NOTHING ? NONE : member;
    }

    private static int bit(int type) {
        return 1 << type;
    }

    private static boolean holds(int set, int type) {
        return (set >> type & 1) != 0;
    }

    /** The TYPES told, and what stands above what. */
    private static final class Types {
        private final int[] kinds = new int[MOST_TYPES];
        private final int[] marks = new int[MOST_TYPES];
        private final int[] packs = new int[MOST_TYPES];
        private final int[] parents = new int[MOST_TYPES];
        private final int[] parentSets = new int[MOST_TYPES];
        private final int[] uppers = new int[MOST_TYPES];
        private final int[] uppersTwice = new int[MOST_TYPES];
        private final int[] uppersTold = new int[MOST_TYPES];
        private final int[] permitted = new int[MOST_TYPES];
        private final int[] permittedTold = new int[MOST_TYPES];
        private final int[] above = new int[MOST_TYPES];
        private int count = 0;

        int addType(int kind, int typeMarks, int pack, int parent) {
            int type = count;
            kinds[type] = kind;
            marks[type] = typeMarks;
            packs[type] = pack;
            parents[type] = parent;
            parentSets[type] = parent == NOTHING ? 0 : bit(parent);
            count++;
            settleAbove();
            return type;
        }

        int addUpper(int type, int other) {
            uppersTwice[type] |= uppers[type] & bit(other);
            uppers[type] |= bit(other);
            uppersTold[type]++;
            settleAbove();
            return uppersTold[type];
        }

        int addPermitted(int type, int other) {
            permitted[type] |= bit(other);
            permittedTold[type]++;
            return permittedTold[type];
        }

        /** Made anew for all TYPES at each change: a new TYPE may be one that others have named long before. */
        private void settleAbove() {
            for (int type = 0; type < count; type++) {
                above[type] = next(type) & everyone();
            }
            for (int middle = 0; middle < count; middle++) {
                for (int type = 0; type < count; type++) {
                    if (holds(above[type], middle)) {
                        above[type] |= above[middle];
                    }
                }
            }
        }

        boolean there(int type) {
            return type >= 0 && type < count;
        }

        int everyone() {
            return bit(count) - 1;
        }

        boolean marked(int type, int mark) {
            return (marks[type] & mark) != 0;
        }

        /** PARENT and UPPERS, there or not. */
        int next(int type) {
            return parentSets[type] | uppers[type];
        }

        int parentThere(int type) {
            return parents[type] < count ? parents[type] : NOTHING;
        }

        /** Whether a TYPE IS another one. It stands at the end of eight calls, so it calls none itself. */
        boolean stands(int type, int other) {
            return type == other || (above[type] >> other & 1) != 0;
        }

        int ofKind(int kind) {
            int set = 0;
            for (int type = 0; type < count; type++) {
                set |= kinds[type] == kind ? bit(type) : 0;
            }
            return set;
        }

        int withMark(int mark) {
            int set = 0;
            for (int type = 0; type < count; type++) {
                set |= marked(type, mark) ? bit(type) : 0;
            }
            return set;
        }
    }

    /** The MEMBERS told. */
    private static final class Members {
        private final Types types;
        private final int[] owners = new int[MOST_MEMBERS];
        private final int[] names = new int[MOST_MEMBERS];
        private final int[] params = new int[MOST_MEMBERS];
        private final int[] marks = new int[MOST_MEMBERS];
        private final int[] accesses = new int[MOST_MEMBERS];
        private final int[] results = new int[MOST_MEMBERS];
        private int count = 0;

        Members(Types types) {
            this.types = types;
        }

        int addMember(int owner, int name, int paramsNumber, int memberMarks, int access, int result) {
            int member = count;
            owners[member] = owner;
            names[member] = name;
            params[member] = paramsNumber;
            marks[member] = memberMarks;
            accesses[member] = access;
            results[member] = result;
            count++;
            return member;
        }

        boolean marked(int member, int mark) {
            return (marks[member] & mark) != 0;
        }

        boolean named(int member, int name, int paramsNumber) {
            return names[member] == name && params[member] == paramsNumber;
        }

        boolean alike(int one, int other) {
            return named(one, names[other], params[other]);
        }

        boolean ofFace(int member) {
            return types.kinds[owners[member]] == FACE;
        }

        boolean shared(int member, int type) {
            boolean staticInFace = marked(member, STATIC) && ofFace(member);
            return holds(types.above[type], owners[member]) && seenFrom(member, type) && !staticInFace;
        }

        /** Whether the ACCESS alone lets a TYPE below have the MEMBER. */
        boolean seenFrom(int member, int type) {
            if (accesses[member] == PACKAGE) {
                return types.packs[owners[member]] == types.packs[type];
            }
            return accesses[member] != PRIVATE;
        }

        /** Whether a MEMBER stands for its NAME and PARAMS: none with a lesser number is LIKE it. */
        boolean firstOfItsSort(int member) {
            for (int lesser = 0; lesser < member; lesser++) {
                if (alike(lesser, member)) {
                    return false;
                }
            }
            return true;
        }
    }

    /**
     * Which MEMBER is the one for a TYPE, a NAME and PARAMS: first sought, then asked for.
     * Asked only where neither the TYPE nor one above it has fault 1, 2 or 3.
     */
    private static final class Choice {
        private final Types types;
        private final Members members;
        private final int[] faceOnes = new int[MOST_TYPES];
        private final int[] chain = new int[MOST_TYPES];
        private final int[] takers = new int[MOST_TYPES];
        private int faceOnesCount = 0;
        private int classOne = NOTHING;

        Choice(Types types, Members members) {
            this.types = types;
            this.members = members;
        }

        void seekClassOne(int type, int name, int params) {
            classOne = NOTHING;
            int at = types.kinds[type] == FACE ? NOTHING : type;
            for (int step = 0; step < MOST_TYPES && at != NOTHING; step++) {
                for (int member = 0; member < members.count; member++) {
                    if (members.owners[member] == at && members.named(member, name, params)
                            && !members.marked(member, STATIC) && (at == type || members.shared(member, type))) {
                        classOne = member;
                        return;
                    }
                }
                at = types.parentThere(at);
            }
        }

        /** Puts the FACE ONES into their row, the least first. */
        void seekFaceOnes(int type, int name, int params) {
            int giving = 0;
            int covered = 0;
            for (int member = 0; member < members.count; member++) {
                if (givenByFace(member, type, name, params)) {
                    giving |= bit(members.owners[member]);
                    covered |= types.above[members.owners[member]];
                }
            }
            int left = giving & ~covered;
            faceOnesCount = 0;
            for (int member = 0; member < members.count && left != 0; member++) {
                if (holds(left, members.owners[member]) && givenByFace(member, type, name, params)) {
                    faceOnes[faceOnesCount] = member;
                    faceOnesCount++;
                    left &= ~bit(members.owners[member]);
                }
            }
        }

        private boolean givenByFace(int member, int type, int name, int params) {
            return members.named(member, name, params) && members.ofFace(member)
                    && types.stands(type, members.owners[member])
                    && !members.marked(member, STATIC) && members.accesses[member] != PRIVATE;
        }

        private int leastFaceOneWith(int mark) {
            for (int i = 0; i < faceOnesCount; i++) {
                if (members.marked(faceOnes[i], mark)) {
                    return faceOnes[i];
                }
            }
            return NOTHING;
        }

        int leastToBeGiven() {
            if (classOne != NOTHING) {
                return members.marked(classOne, ABSTRACT) ? classOne : NOTHING;
            }
            return leastFaceOneWith(DEFAULT) == NOTHING ? leastFaceOneWith(ABSTRACT) : NOTHING;
        }

        /** The least of several FACE ONES of which one at least would run, with no CLASS ONE to settle it. */
        int leastOfRivals() {
            boolean rivals = classOne == NOTHING && faceOnesCount > 1 && leastFaceOneWith(DEFAULT) != NOTHING;
            return rivals ? faceOnes[0] : NOTHING;
        }

        int running(int type, int name, int params) {
            seekClassOne(type, name, params);
            if (classOne != NOTHING) {
                return unlessAbstract(classOne);
            }
            seekFaceOnes(type, name, params);
            return faceOnesCount == 1 ? leastFaceOneWith(DEFAULT) : NOTHING;
        }

        int reached(int type, int object, int name, int params) {
            int meant = meantBy(type, name, params);
            if (meant == NOTHING || members.accesses[meant] == PRIVATE) {
                return meant;
            }
            if (members.ofFace(meant)) {
                return running(object, name, params);
            }
            return unlessAbstract(inPlaceOf(meant, object));
        }

        private int meantBy(int type, int name, int params) {
            seekClassOne(type, name, params);
            if (classOne != NOTHING) {
                return classOne;
            }
            seekFaceOnes(type, name, params);
            return faceOnesCount > 0 ? faceOnes[0] : NOTHING;
        }

        /**
         * The MEMBER nearest to the object's TYPE that is the one meant or takes its place. It is sought from above
         * down, since one that takes the place of a taker takes the place of the one meant.
         */
        private int inPlaceOf(int meant, int object) {
            int length = chainUpTo(members.owners[meant], object);
            takers[0] = meant;
            int found = 1;
            for (int i = length - 2; i >= 0; i--) {
                int member = overriderIn(chain[i], meant);
                if (member != NOTHING && takesPlace(member, found)) {
                    takers[found] = member;
                    found++;
                }
            }
            return takers[found - 1];
        }

        /** Fills the chain of PARENTS from the object's TYPE up to the top: how many; 0 if the top is not met. */
        private int chainUpTo(int top, int object) {
            int at = object;
            for (int length = 0; length < MOST_TYPES && at != NOTHING; length++) {
                chain[length] = at;
                if (at == top) {
                    return length + 1;
                }
                at = types.parentThere(at);
            }
            return 0;
        }

        private int overriderIn(int owner, int meant) {
            for (int member = 0; member < members.count; member++) {
                if (members.owners[member] == owner && members.alike(member, meant)
                        && !members.marked(member, STATIC) && members.accesses[member] != PRIVATE) {
                    return member;
                }
            }
            return NOTHING;
        }

        private boolean takesPlace(int member, int found) {
            for (int i = 0; i < found; i++) {
                if (members.seenFrom(takers[i], members.owners[member])) {
                    return true;
                }
            }
            return false;
        }

        private int unlessAbstract(int member) {
            return members.marked(member, ABSTRACT) ? NOTHING : member;
        }
    }

    /** The faults that a TYPE has by itself and by those it names: sets of the TYPES that are their numbers. */
    private static final class TypeRules {
        private final Types types;

        TypeRules(Types types) {
            this.types = types;
        }

        int missing(int type) {
            return (types.next(type) | types.permitted[type]) & ~types.everyone();
        }

        int ring(int type) {
            return types.above[type] & bit(type);
        }

        /** A TYPE that is not there is neither CLASS nor FACE: only in faults 4 to 8 such ones are passed over. */
        int wrongKind(int type) {
            int parent = types.parentSets[type];
            if (types.kinds[type] == CLASS) {
                parent &= ~types.ofKind(CLASS);
            }
            return parent | (types.uppers[type] & ~types.ofKind(FACE));
        }

        int finalParent(int type) {
            return types.parentSets[type] & types.withMark(FINAL);
        }

        int wrongMarks(int type) {
            int marks = types.marks[type];
            int kind = types.kinds[type];
            boolean several = Integer.bitCount(marks & (FINAL | SEALED | OPEN)) > 1;
            boolean noFinal = kind == FACE || (marks & ABSTRACT) != 0;
            boolean noMarks = kind != CLASS && kind != FACE;
            boolean wrong = several || (noFinal && (marks & FINAL) != 0) || (noMarks && marks != 0);
            return wrong ? bit(type) : 0;
        }

        int wrongUnderSealed(int type) {
            int sealedOnes = types.next(type) & types.withMark(SEALED);
            if (sealedOnes == 0) {
                return types.marked(type, OPEN) ? bit(type) : 0;
            }
            int kind = types.kinds[type];
            boolean undecided = (kind == CLASS || kind == FACE) && !types.marked(type, FINAL | SEALED | OPEN);
            int wrong = 0;
            for (int other = 0; other < types.count; other++) {
                if (holds(sealedOnes, other) && (undecided || !holds(types.permitted[other], type))) {
                    wrong |= bit(other);
                }
            }
            return wrong;
        }

        int wrongPermits(int type) {
            int permitted = types.permitted[type] & types.everyone();
            int wrong = (permitted != 0) == types.marked(type, SEALED) ? 0 : bit(type);
            for (int other = 0; other < types.count; other++) {
                if (holds(permitted, other) && !holds(types.next(other), type)) {
                    wrong |= bit(other);
                }
            }
            return wrong;
        }

        int twice(int type) {
            return types.uppersTwice[type] & types.everyone();
        }

        /** Whether a TYPE or one above it has fault 1, 2 or 3, so that what is above can't be asked for members. */
        boolean shaky(int type) {
            for (int other = 0; other < types.count; other++) {
                if (types.stands(type, other) && (missing(other) | ring(other) | wrongKind(other)) != 0) {
                    return true;
                }
            }
            return false;
        }
    }

    /** The faults of MEMBERS by themselves and over those that they inherit. */
    private static final class MemberRules {
        private final Types types;
        private final Members members;

        MemberRules(Types types, Members members) {
            this.types = types;
            this.members = members;
        }

        boolean doubled(int member) {
            for (int lesser = 0; lesser < member; lesser++) {
                if (members.owners[lesser] == members.owners[member] && members.alike(lesser, member)) {
                    return true;
                }
            }
            return false;
        }

        boolean wrongMarks(int member) {
            return members.ofFace(member) ? wrongInFace(member) : wrongElsewhere(member);
        }

        private boolean wrongInFace(int member) {
            int access = members.accesses[member];
            if (members.marked(member, FINAL) || access == PACKAGE || access == PROTECTED) {
                return true;
            }
            int ways = Integer.bitCount(members.marks[member] & (ABSTRACT | DEFAULT | STATIC));
            return ways + (access == PRIVATE ? 1 : 0) != 1;
        }

        private boolean wrongElsewhere(int member) {
            if (!members.marked(member, ABSTRACT)) {
                return members.marked(member, DEFAULT);
            }
            int owner = members.owners[member];
            return members.marked(member, DEFAULT | FINAL | STATIC) || members.accesses[member] == PRIVATE
                    || types.kinds[owner] != CLASS || !types.marked(owner, ABSTRACT);
        }

        boolean resultFits(int result, int inherited) {
            if (result == inherited) {
                return true;
            }
            int type = result - PLAIN_RESULTS;
            int other = inherited - PLAIN_RESULTS;
            return types.there(type) && types.there(other) && types.stands(type, other);
        }
    }

    /** The faults of the TYPES. One TYPE's faults are kept at a time, and of each TYPE how many, until a change. */
    private static final class Judge {
        private static final int FIRST_KIND = 1, LAST_KIND = 17, WORDS = 2, WORD_BITS = 64;

        private final Types types;
        private final Members members;
        private final Choice choice;
        private final TypeRules typeRules;
        private final MemberRules memberRules;
        /** For each kind of fault the set of its numbers: being a set, it holds each once and in order. */
        private final long[] found = new long[(LAST_KIND + 1) * WORDS];
        private final int[] counts = new int[MOST_TYPES];
        private int counted = 0;
        private int kept = NOTHING;

        Judge(Types types, Members members, Choice choice) {
            this.types = types;
            this.members = members;
            this.choice = choice;
            this.typeRules = new TypeRules(types);
            this.memberRules = new MemberRules(types, members);
        }

        void forget() {
            counted = 0;
            kept = NOTHING;
        }

        int countOf(int type) {
            if (!holds(counted, type)) {
                keep(type);
                counts[type] = countFound();
                counted |= bit(type);
            }
            return counts[type];
        }

        int kindAt(int type, int k) {
            return placeAt(type, k) / MOST_MEMBERS;
        }

        int numberAt(int type, int k) {
            return placeAt(type, k) % MOST_MEMBERS;
        }

        /** Where fault k stands: its kind times the most numbers, and its number. */
        private int placeAt(int type, int k) {
            keep(type);
            int passed = 0;
            for (int kind = FIRST_KIND; kind <= LAST_KIND; kind++) {
                for (int number = 0; number < MOST_MEMBERS; number++) {
                    if (isFound(kind, number)) {
                        if (passed == k) {
                            return kind * MOST_MEMBERS + number;
                        }
                        passed++;
                    }
                }
            }
            return NOTHING;
        }

        private void keep(int type) {
            if (kept == type) {
                return;
            }
            Arrays.fill(found, 0L);
            findTypeFaults(type);
            findMemberFaults(type);
            if (!typeRules.shaky(type)) {
                findInheritedFaults(type);
                findGivenFaults(type);
            }
            kept = type;
        }

        private void findTypeFaults(int type) {
            putTypes(1, typeRules.missing(type));
            putTypes(2, typeRules.ring(type));
            putTypes(3, typeRules.wrongKind(type));
            putTypes(4, typeRules.finalParent(type));
            putTypes(5, typeRules.wrongMarks(type));
            putTypes(6, typeRules.wrongUnderSealed(type));
            putTypes(7, typeRules.wrongPermits(type));
            putTypes(8, typeRules.twice(type));
        }

        private void findMemberFaults(int type) {
            for (int member = 0; member < members.count; member++) {
                if (members.owners[member] == type) {
                    putIf(memberRules.doubled(member), 10, member);
                    putIf(memberRules.wrongMarks(member), 11, member);
                }
            }
        }

        private void findInheritedFaults(int type) {
            for (int member = 0; member < members.count; member++) {
                if (members.owners[member] == type && members.accesses[member] != PRIVATE) {
                    findOver(type, member);
                }
            }
        }

        private void findOver(int type, int member) {
            for (int other = 0; other < members.count; other++) {
                if (members.alike(other, member) && members.shared(other, type)) {
                    putIf(members.marked(other, FINAL), 12, member);
                    putIf(members.marked(other, STATIC) != members.marked(member, STATIC), 13, member);
                    putIf(members.accesses[other] > members.accesses[member], 14, member);
                    putIf(!memberRules.resultFits(members.results[member], members.results[other]), 15, member);
                }
            }
        }

        private void findGivenFaults(int type) {
            boolean mustGive = types.kinds[type] != FACE && !types.marked(type, ABSTRACT);
            for (int member = 0; member < members.count; member++) {
                if (members.firstOfItsSort(member)) {
                    choice.seekClassOne(type, members.names[member], members.params[member]);
                    choice.seekFaceOnes(type, members.names[member], members.params[member]);
                    int owed = choice.leastToBeGiven();
                    putIf(mustGive && owed != NOTHING, 16, owed);
                    int rival = choice.leastOfRivals();
                    putIf(rival != NOTHING, 17, rival);
                }
            }
        }

        private void putTypes(int kind, int set) {
            found[kind * WORDS] = set;
        }

        private void putIf(boolean wrong, int kind, int number) {
            if (wrong) {
                found[kind * WORDS + number / WORD_BITS] |= 1L << (number % WORD_BITS);
            }
        }

        private boolean isFound(int kind, int number) {
            return (found[kind * WORDS + number / WORD_BITS] >> (number % WORD_BITS) & 1L) != 0;
        }

        private int countFound() {
            int sum = 0;
            for (int i = 0; i < found.length; i++) {
                sum += Long.bitCount(found[i]);
            }
            return sum;
        }
    }
}
