import java.util.Arrays;

/** An audit of how the classes of plugins will be linked, before any of them runs. */
public final class LinkAudit {
    public static final int REFUSED = -1;
    public static final int FULL = -2;
    public static final int NO_CLASS = -3;
    public static final int CIRCULAR = -4;
    public static final int INCOMPATIBLE = -5;
    public static final int ILLEGAL = -6;
    public static final int NO_MEMBER = -7;
    public static final int INSTANCE = -8;
    public static final int NO_CODE = -9;
    public static final int UNLOADED = -10;
    public static final int IS_PUBLIC = 1;
    public static final int IS_FINAL = 2;
    public static final int IS_ABSTRACT = 4;
    public static final int IS_INTERFACE = 8;
    public static final int PUBLIC = 0;
    public static final int PROTECTED = 1;
    public static final int PACKAGE = 2;
    public static final int PRIVATE = 3;
    public static final int STATIC = 4;
    public static final int ABSTRACT = 8;
    public static final int NEW = 0;
    public static final int FIELD = 1;
    public static final int FIELD_STATIC = 2;
    public static final int CALL = 3;
    public static final int CALL_STATIC = 4;
    public static final int CALL_INTERFACE = 5;

    private static final int HOST = 0;
    private static final int LOADERS = 5;
    private static final int MOST_PROVIDERS = 3;
    private static final int NAMES = 12;
    private static final int NAMES_IN_PACKAGE = 4;
    private static final int NO_SUPER = 12;
    private static final int NUMBER_TYPE = 12;
    private static final int TYPES = 13;
    private static final int MOST_CLASSES = 16;
    private static final int CLASS_FLAGS = 16;
    private static final int INTERFACE_SETS = 1 << NAMES;
    private static final int MEMBER_NAMES = 4;
    private static final int MOST_MEMBERS = 40;
    private static final int FIELD_FLAGS = 8;
    private static final int METHOD_FLAGS = 16;
    private static final int ACCESS_BITS = 3;
    private static final int KINDS = 6;
    private static final int MOST_REFERENCES = 12;
    // Of five loaders ten pairs can conflict, on each of the twelve names.
    private static final int MOST_CONFLICTS = 120;

    private final Loaders loaders;
    private final Classes classes;
    private final Members members;
    private final References references;
    private final Links links;
    private final Resolver resolver;
    private final Selector selector;
    private final Agreements agreements;
    private boolean linked;
    private boolean agreed;

    public LinkAudit() {
        loaders = new Loaders();
        classes = new Classes();
        members = new Members();
        references = new References();
        links = new Links(loaders, classes);
        Inheritance inheritance = new Inheritance(links, members);
        resolver = new Resolver(inheritance, references);
        selector = new Selector(inheritance);
        agreements = new Agreements(loaders);
        linked = false;
        agreed = false;
    }

    public int provide(int loader, int other) {
        if (!isPlugin(loader) || !isBelow(other, LOADERS)) {
            return REFUSED;
        }
        if (loader == other || loaders.hasProvider(loader, other)) {
            return REFUSED;
        }
        if (loaders.providerCounts[loader] >= MOST_PROVIDERS) {
            return FULL;
        }
        forgetLinks();
        return loaders.addProvider(loader, other);
    }

    public int mask(int loader, int name, boolean on) {
        if (!isPlugin(loader) || !isBelow(name, NAMES)) {
            return REFUSED;
        }
        forgetLinks();
        loaders.setMasked(loader, name, on);
        return 0;
    }

    public int define(int loader, int name, int flags, int superName, int interfaces) {
        if (!isBelow(loader, LOADERS) || !isBelow(name, NAMES) || !isBelow(flags, CLASS_FLAGS)) {
            return REFUSED;
        }
        if (!isBelow(superName, NO_SUPER + 1) || !isBelow(interfaces, INTERFACE_SETS)) {
            return REFUSED;
        }
        boolean isInterface = (flags & IS_INTERFACE) != 0;
        if (isInterface && (superName != NO_SUPER || (flags & IS_FINAL) != 0)) {
            return REFUSED;
        }
        if (loaders.own[loader][name] != 0) {
            return REFUSED;
        }
        if (classes.size >= MOST_CLASSES) {
            return FULL;
        }
        forgetLinks();
        int number = classes.add(loader, name, flags, superName, interfaces);
        loaders.own[loader][name] = number;
        return number;
    }

    public int field(int owner, int name, int type, int flags) {
        if (!isClass(owner) || !isBelow(name, MEMBER_NAMES)) {
            return REFUSED;
        }
        if (!isBelow(type, TYPES) || !isBelow(flags, FIELD_FLAGS)) {
            return REFUSED;
        }
        return addMember(owner, Members.fieldSignature(name, type), flags);
    }

    public int method(int owner, int name, int argument, int answer, int flags) {
        if (!isClass(owner) || !isBelow(name, MEMBER_NAMES) || !isBelow(flags, METHOD_FLAGS)) {
            return REFUSED;
        }
        if (!isBelow(argument, TYPES) || !isBelow(answer, TYPES)) {
            return REFUSED;
        }
        int access = flags & ACCESS_BITS;
        if (classes.isInterface(owner) && access != PUBLIC && access != PRIVATE) {
            return REFUSED;
        }
        if ((flags & ABSTRACT) != 0 && (access == PRIVATE || (flags & STATIC) != 0)) {
            return REFUSED;
        }
        return addMember(owner, Members.methodSignature(name, argument, answer), flags);
    }

    public int reference(int from, int kind, int className, int first, int second) {
        if (!isClass(from) || !isBelow(kind, KINDS * MEMBER_NAMES) || !isBelow(className, NAMES)) {
            return REFUSED;
        }
        if (!isBelow(first, TYPES) || !isBelow(second, TYPES)) {
            return REFUSED;
        }
        if (references.size >= MOST_REFERENCES) {
            return FULL;
        }
        forgetLinks();
        return references.add(from, kind, className, first, second);
    }

    public int find(int loader, int name) {
        if (!isBelow(loader, LOADERS) || !isBelow(name, NAMES)) {
            return REFUSED;
        }
        int number = loaders.found(loader, name);
        return number == 0 ? NO_CLASS : number;
    }

    public int load(int number) {
        if (!isClass(number)) {
            return REFUSED;
        }
        link();
        return links.codes[number];
    }

    public int verdict(int reference) {
        if (!isBelow(reference, references.size)) {
            return REFUSED;
        }
        link();
        return resolver.verdictOf(reference);
    }

    public int select(int number, int member) {
        if (!isClass(number) || !isMethod(member)) {
            return REFUSED;
        }
        link();
        return selector.isSelectable(number, member) ? selector.selected(number, member) : REFUSED;
    }

    public boolean overrides(int method, int other) {
        if (!isMethod(method) || !isMethod(other)) {
            return false;
        }
        link();
        return selector.isOverriding(method, other);
    }

    public int gaps() {
        link();
        return selector.gapCount();
    }

    public int conflicts() {
        link();
        agree();
        return agreements.size;
    }

    public int conflict(int k, int what) {
        link();
        agree();
        if (!isBelow(k, agreements.size)) {
            return REFUSED;
        }
        switch (what) {
            case 0:
                return agreements.names[k];
            case 1:
                return agreements.firsts[k];
            case 2:
                return agreements.seconds[k];
            default:
                return REFUSED;
        }
    }

    public int faults() {
        link();
        agree();
        return resolver.codeCount() + selector.gapCount() + agreements.size;
    }

    public int count(int what) {
        switch (what) {
            case 0:
                return classes.size;
            case 1:
                return members.size;
            case 2:
                return references.size;
            default:
                return REFUSED;
        }
    }

    private static boolean isBelow(int value, int bound) {
        return value >= 0 && value < bound;
    }

    private static boolean isPlugin(int loader) {
        return loader != HOST && isBelow(loader, LOADERS);
    }

    private boolean isClass(int number) {
        return number >= 1 && number <= classes.size;
    }

    private boolean isMethod(int member) {
        return member >= 1 && member <= members.size && members.isMethod(member);
    }

    private static boolean hasBit(long set, int bit) {
        return (set >> bit & 1L) != 0;
    }

    private static int lowestBit(long set) {
        return Long.bitCount((set & -set) - 1L);
    }

    private int addMember(int owner, int signature, int flags) {
        if ((members.withSignature(signature) & members.ofClass[owner]) != 0) {
            return REFUSED;
        }
        if (members.size >= MOST_MEMBERS) {
            return FULL;
        }
        forgetLinks();
        return members.add(owner, signature, flags);
    }

    private void forgetLinks() {
        linked = false;
        agreed = false;
    }

    private void link() {
        if (!linked) {
            links.renew();
            selector.renew();
            linked = true;
        }
    }

    private void agree() {
        if (agreed) {
            return;
        }
        agreements.clear();
        for (int i = 0; i < references.size; i++) {
            int member = resolver.verdictOf(i);
            if (member > 0 && references.kinds[i] != NEW) {
                agreeOnTypes(member, references.froms[i]);
            }
        }
        for (int m = 1; m <= members.size; m++) {
            for (int other = 1; other <= members.size; other++) {
                if (selector.isOverriding(m, other)) {
                    agreeOnTypes(other, members.owners[m]);
                }
            }
        }
        agreements.listConflicts();
        agreed = true;
    }

    private void agreeOnTypes(int member, int user) {
        int first = classes.loaders[members.owners[member]];
        int second = classes.loaders[user];
        agreements.join(members.firstType(member), first, second);
        agreements.join(members.secondType(member), first, second);
    }

    /** The loaders: whom they ask, what they mask, and the classes of their own. */
    private static final class Loaders {
        final int[][] providers = new int[LOADERS][MOST_PROVIDERS];
        final int[] providerCounts = new int[LOADERS];
        final int[] masked = new int[LOADERS];
        final int[][] own = new int[LOADERS][NAMES];

        boolean hasProvider(int loader, int other) {
            for (int i = 0; i < providerCounts[loader]; i++) {
                if (providers[loader][i] == other) {
                    return true;
                }
            }
            return false;
        }

        int addProvider(int loader, int other) {
            providers[loader][providerCounts[loader]] = other;
            providerCounts[loader]++;
            return providerCounts[loader];
        }

        void setMasked(int loader, int name, boolean on) {
            if (on) {
                masked[loader] |= 1 << name;
            } else {
                masked[loader] &= ~(1 << name);
            }
        }

        /** The class that the loader finds for the name, or 0. */
        int found(int loader, int name) {
            int number = 0;
            if (!hasBit(masked[loader], name)) {
                number = own[HOST][name];
                // A provider gives only what it has itself: it does not ask its own providers.
                for (int i = 0; i < providerCounts[loader] && number == 0; i++) {
                    number = own[providers[loader][i]][name];
                }
            }
            return number == 0 ? own[loader][name] : number;
        }
    }

    /** The classes as they were defined, from row 1. */
    private static final class Classes {
        final int[] loaders = new int[MOST_CLASSES + 1];
        final int[] names = new int[MOST_CLASSES + 1];
        final int[] flags = new int[MOST_CLASSES + 1];
        final int[] superNames = new int[MOST_CLASSES + 1];
        final int[] interfaceNames = new int[MOST_CLASSES + 1];
        int size = 0;

        int add(int loader, int name, int flagSum, int superName, int interfaces) {
            size++;
            loaders[size] = loader;
            names[size] = name;
            flags[size] = flagSum;
            superNames[size] = superName;
            interfaceNames[size] = interfaces;
            return size;
        }

        boolean isInterface(int number) {
            return (flags[number] & IS_INTERFACE) != 0;
        }

        boolean isAbstract(int number) {
            return (flags[number] & (IS_ABSTRACT | IS_INTERFACE)) != 0;
        }

        boolean canBeSuper(int number) {
            return (flags[number] & (IS_FINAL | IS_INTERFACE)) == 0;
        }

        boolean areNeighbours(int number, int other) {
            return loaders[number] == loaders[other]
                && names[number] / NAMES_IN_PACKAGE == names[other] / NAMES_IN_PACKAGE;
        }

        boolean mayUse(int user, int used) {
            return (flags[used] & IS_PUBLIC) != 0 || areNeighbours(user, used);
        }
    }

    /** The fields and methods, from row 1; sets of them are longs with a bit for each. */
    private static final class Members {
        final int[] owners = new int[MOST_MEMBERS + 1];
        final int[] signatures = new int[MOST_MEMBERS + 1];
        final int[] flags = new int[MOST_MEMBERS + 1];
        final long[] ofClass = new long[MOST_CLASSES + 1];
        // Methods that are neither PRIVATE nor static: only these cover or are covered.
        long virtualOnes = 0L;
        long abstractOnes = 0L;
        int size = 0;

        static int methodSignature(int name, int argument, int answer) {
            return ((MEMBER_NAMES + name) * TYPES + argument) * TYPES + answer;
        }

        // A number as second type: nobody has to agree on it, and no field differs by it.
        static int fieldSignature(int name, int type) {
            return (name * TYPES + type) * TYPES + NUMBER_TYPE;
        }

        int add(int owner, int signature, int flagSum) {
            size++;
            owners[size] = owner;
            signatures[size] = signature;
            flags[size] = flagSum;
            long bit = 1L << size;
            ofClass[owner] |= bit;
            if (isMethod(size) && !isStatic(size) && access(size) != PRIVATE) {
                virtualOnes |= bit;
            }
            if ((flagSum & ABSTRACT) != 0) {
                abstractOnes |= bit;
            }
            return size;
        }

        boolean isMethod(int member) {
            return signatures[member] / (TYPES * TYPES) >= MEMBER_NAMES;
        }

        int firstType(int member) {
            return signatures[member] / TYPES % TYPES;
        }

        int secondType(int member) {
            return signatures[member] % TYPES;
        }

        int access(int member) {
            return flags[member] & ACCESS_BITS;
        }

        boolean isStatic(int member) {
            return (flags[member] & STATIC) != 0;
        }

        long withSignature(int signature) {
            long set = 0L;
            for (int m = 1; m <= size; m++) {
                if (signatures[m] == signature) {
                    set |= 1L << m;
                }
            }
            return set;
        }
    }

    /** The references, from row 0. */
    private static final class References {
        final int[] froms = new int[MOST_REFERENCES];
        final int[] kinds = new int[MOST_REFERENCES];
        final int[] classNames = new int[MOST_REFERENCES];
        final int[] signatures = new int[MOST_REFERENCES];
        int size = 0;

        int add(int from, int kindAndName, int className, int first, int second) {
            int kind = kindAndName / MEMBER_NAMES;
            int name = kindAndName % MEMBER_NAMES;
            froms[size] = from;
            kinds[size] = kind;
            classNames[size] = className;
            signatures[size] = kind == FIELD || kind == FIELD_STATIC
                ? Members.fieldSignature(name, first)
                : Members.methodSignature(name, first, second);
            size++;
            return size - 1;
        }

        boolean wantsField(int reference) {
            return kinds[reference] == FIELD || kinds[reference] == FIELD_STATIC;
        }

        boolean wantsStatic(int reference) {
            return kinds[reference] == FIELD_STATIC || kinds[reference] == CALL_STATIC;
        }
    }

    /** Which classes are loadable, and the supers of those that are; sets of classes are ints with a bit for each. */
    private static final class Links {
        final Loaders loaders;
        final Classes classes;
        final int[] codes = new int[MOST_CLASSES + 1];
        // Each class itself, then its superclasses from the nearest up.
        final int[][] chains = new int[MOST_CLASSES + 1][MOST_CLASSES];
        final int[] chainLengths = new int[MOST_CLASSES + 1];
        final int[] properSuperclasses = new int[MOST_CLASSES + 1];
        final int[] superinterfaces = new int[MOST_CLASSES + 1];
        // The loadable classes, each behind its supers.
        final int[] order = new int[MOST_CLASSES];
        int loadableCount = 0;

        Links(Loaders loaders, Classes classes) {
            this.loaders = loaders;
            this.classes = classes;
        }

        void renew() {
            loadableCount = 0;
            Arrays.fill(codes, 0);
            for (int number = 1; number <= classes.size; number++) {
                codes[number] = loadCode(number, 0);
            }
        }

        boolean isLoadable(int number) {
            return codes[number] == number;
        }

        boolean isSubclass(int number, int other) {
            return number == other || hasBit(properSuperclasses[number], other);
        }

        boolean isProperSuper(int number, int other) {
            return hasBit(properSuperclasses[number] | superinterfaces[number], other);
        }

        int resolved(int user, int name) {
            int number = loaders.found(classes.loaders[user], name);
            if (number == 0) {
                return NO_CLASS;
            }
            if (!isLoadable(number)) {
                return codes[number];
            }
            return classes.mayUse(user, number) ? number : ILLEGAL;
        }

        /**
         * Goes at most as deep as there are classes, for each level opens one more. A class that
         * could be loaded is not tried again; one that could not is, for its code may depend on
         * which class was asked first.
         */
        private int loadCode(int number, int open) {
            if (hasBit(open, number)) {
                return CIRCULAR;
            }
            if (isLoadable(number)) {
                return number;
            }
            int nowOpen = open | 1 << number;
            int superName = classes.superNames[number];
            int code = superName == NO_SUPER ? number : superCode(number, superName, false, nowOpen);
            for (int name = 0; name < NAMES && code > 0; name++) {
                if (hasBit(classes.interfaceNames[number], name)) {
                    code = superCode(number, name, true, nowOpen);
                }
            }
            if (code < 0) {
                return code;
            }
            noteSupers(number);
            return number;
        }

        private int superCode(int number, int name, boolean asInterface, int open) {
            int above = loaders.found(classes.loaders[number], name);
            if (above == 0) {
                return NO_CLASS;
            }
            int code = loadCode(above, open);
            if (code < 0) {
                return code;
            }
            if (asInterface ? !classes.isInterface(above) : !classes.canBeSuper(above)) {
                return INCOMPATIBLE;
            }
            return classes.mayUse(number, above) ? above : ILLEGAL;
        }

        private void noteSupers(int number) {
            chains[number][0] = number;
            chainLengths[number] = 1;
            properSuperclasses[number] = 0;
            superinterfaces[number] = 0;
            if (classes.superNames[number] != NO_SUPER) {
                noteSuper(number, loaders.found(classes.loaders[number], classes.superNames[number]));
            }
            for (int name = 0; name < NAMES; name++) {
                if (hasBit(classes.interfaceNames[number], name)) {
                    int above = loaders.found(classes.loaders[number], name);
                    superinterfaces[number] |= 1 << above | superinterfaces[above];
                }
            }
            codes[number] = number;
            order[loadableCount] = number;
            loadableCount++;
        }

        private void noteSuper(int number, int above) {
            System.arraycopy(chains[above], 0, chains[number], 1, chainLengths[above]);
            chainLengths[number] = chainLengths[above] + 1;
            properSuperclasses[number] = 1 << above | properSuperclasses[above];
            superinterfaces[number] = superinterfaces[above];
        }
    }

    /** The members that classes inherit from their superinterfaces. */
    private static final class Inheritance {
        final Links links;
        final Members members;

        Inheritance(Links links, Members members) {
            this.links = links;
            this.members = members;
        }

        long offered(int number, long like) {
            long set = 0L;
            for (int i = 1; i <= links.classes.size; i++) {
                if (hasBit(links.superinterfaces[number], i)) {
                    set |= members.ofClass[i];
                }
            }
            return set & like & members.virtualOnes;
        }

        long mostSpecificWithCode(long offered) {
            int aboveOthers = 0;
            for (int m = 1; m <= members.size; m++) {
                if (hasBit(offered, m)) {
                    aboveOthers |= links.superinterfaces[members.owners[m]];
                }
            }
            long set = 0L;
            for (int m = 1; m <= members.size; m++) {
                if (hasBit(offered, m) && !hasBit(aboveOthers, members.owners[m])) {
                    set |= 1L << m;
                }
            }
            return set & ~members.abstractOnes;
        }
    }

    /** What references come to. */
    private static final class Resolver {
        final Links links;
        final Classes classes;
        final Members members;
        final References references;
        final Inheritance inheritance;
        // The classes that a search for a field has been through: to go again would find nothing new.
        private int searched = 0;

        Resolver(Inheritance inheritance, References references) {
            this.links = inheritance.links;
            this.classes = inheritance.links.classes;
            this.members = inheritance.members;
            this.references = references;
            this.inheritance = inheritance;
        }

        int codeCount() {
            int codes = 0;
            for (int i = 0; i < references.size; i++) {
                if (verdictOf(i) < 0) {
                    codes++;
                }
            }
            return codes;
        }

        int verdictOf(int reference) {
            int user = references.froms[reference];
            if (!links.isLoadable(user)) {
                return UNLOADED;
            }
            int number = links.resolved(user, references.classNames[reference]);
            if (number < 0) {
                return number;
            }
            if (references.kinds[reference] == NEW) {
                return classes.isAbstract(number) ? INSTANCE : number;
            }
            if (!isKindOfClass(references.kinds[reference], number)) {
                return INCOMPATIBLE;
            }
            return memberVerdict(reference, user, number);
        }

        private boolean isKindOfClass(int kind, int number) {
            if (kind == CALL) {
                return !classes.isInterface(number);
            }
            return kind != CALL_INTERFACE || classes.isInterface(number);
        }

        private int memberVerdict(int reference, int user, int number) {
            long like = members.withSignature(references.signatures[reference]);
            searched = 0;
            int member = references.wantsField(reference) ? searchField(number, like) : foundMethod(number, like);
            if (member == 0) {
                return NO_MEMBER;
            }
            if (!mayReach(user, member)) {
                return ILLEGAL;
            }
            return members.isStatic(member) == references.wantsStatic(reference) ? member : INCOMPATIBLE;
        }

        private boolean mayReach(int user, int member) {
            int owner = members.owners[member];
            switch (members.access(member)) {
                case PUBLIC:
                    return true;
                case PROTECTED:
                    return classes.areNeighbours(user, owner) || links.isSubclass(user, owner);
                case PACKAGE:
                    return classes.areNeighbours(user, owner);
                default:
                    return user == owner;
            }
        }

        /** Goes at most as deep as there are classes, for each is searched once. */
        private int searchField(int number, long like) {
            if (hasBit(searched, number)) {
                return 0;
            }
            searched |= 1 << number;
            long own = members.ofClass[number] & like;
            if (own != 0) {
                return lowestBit(own);
            }
            int field = 0;
            for (int name = 0; name < NAMES && field == 0; name++) {
                if (hasBit(classes.interfaceNames[number], name)) {
                    field = searchField(links.loaders.found(classes.loaders[number], name), like);
                }
            }
            if (field == 0 && links.chainLengths[number] > 1) {
                field = searchField(links.chains[number][1], like);
            }
            return field;
        }

        private int foundMethod(int number, long like) {
            for (int i = 0; i < links.chainLengths[number]; i++) {
                long own = members.ofClass[links.chains[number][i]] & like;
                if (own != 0) {
                    return lowestBit(own);
                }
            }
            long offered = inheritance.offered(number, like);
            if (offered == 0) {
                return 0;
            }
            long best = inheritance.mostSpecificWithCode(offered);
            return lowestBit(Long.bitCount(best) == 1 ? best : offered);
        }
    }

    /** Which methods cover others, and which ones calls select. */
    private static final class Selector {
        final Links links;
        final Classes classes;
        final Members members;
        final Inheritance inheritance;
        // For each method of a loadable class, what it covers in the proper superclasses.
        final long[] coveredAbove = new long[MOST_MEMBERS + 1];

        Selector(Inheritance inheritance) {
            this.links = inheritance.links;
            this.classes = inheritance.links.classes;
            this.members = inheritance.members;
            this.inheritance = inheritance;
        }

        /** Superclasses come first in the order, so that what their methods cover is known in time. */
        void renew() {
            for (int i = 0; i < links.loadableCount; i++) {
                int number = links.order[i];
                for (int m = 1; m <= members.size; m++) {
                    if (members.owners[m] == number && hasBit(members.virtualOnes, m)) {
                        coveredAbove[m] = coveredFrom(number, m);
                    }
                }
            }
        }

        private long coveredFrom(int number, int method) {
            long like = likeOnes(method);
            long covered = 0L;
            long coveredByThose = 0L;
            for (int i = 1; i < links.chainLengths[number]; i++) {
                long own = members.ofClass[links.chains[number][i]] & like;
                if (own != 0) {
                    int other = lowestBit(own);
                    if (coversAtOnce(method, other) || hasBit(coveredByThose, other)) {
                        covered |= own;
                        coveredByThose |= coveredAbove[other];
                    }
                }
            }
            return covered;
        }

        private long likeOnes(int method) {
            return members.withSignature(members.signatures[method]) & members.virtualOnes;
        }

        private boolean coversAtOnce(int method, int other) {
            return members.access(other) != PACKAGE
                || classes.areNeighbours(members.owners[method], members.owners[other]);
        }

        private boolean isCovering(int method, int other) {
            if (method == other || members.signatures[method] != members.signatures[other]) {
                return false;
            }
            if (!hasBit(members.virtualOnes, method) || !hasBit(members.virtualOnes, other)) {
                return false;
            }
            return coversAtOnce(method, other) || hasBit(coveredAbove[method], other);
        }

        boolean isOverriding(int method, int other) {
            int number = members.owners[method];
            return links.isLoadable(number)
                && links.isProperSuper(number, members.owners[other])
                && isCovering(method, other);
        }

        boolean isSelectable(int number, int method) {
            int owner = members.owners[method];
            return links.isLoadable(number)
                && !classes.isInterface(number)
                && !members.isStatic(method)
                && (number == owner || links.isProperSuper(number, owner));
        }

        int selected(int number, int method) {
            if (members.access(method) == PRIVATE) {
                return method;
            }
            int got = candidate(number, method);
            if (got < 0) {
                return got;
            }
            if (hasBit(members.abstractOnes, got)) {
                return NO_CODE;
            }
            boolean mustBePublic = classes.isInterface(members.owners[method]);
            return mustBePublic && members.access(got) != PUBLIC ? ILLEGAL : got;
        }

        private int candidate(int number, int method) {
            long like = likeOnes(method);
            for (int i = 0; i < links.chainLengths[number]; i++) {
                long own = members.ofClass[links.chains[number][i]] & like;
                if (own != 0) {
                    int mine = lowestBit(own);
                    if (mine == method || isCovering(mine, method)) {
                        return mine;
                    }
                }
            }
            long best = inheritance.mostSpecificWithCode(inheritance.offered(number, like));
            if (best == 0) {
                return NO_CODE;
            }
            return Long.bitCount(best) == 1 ? lowestBit(best) : INCOMPATIBLE;
        }

        int gapCount() {
            int gaps = 0;
            for (int number = 1; number <= classes.size; number++) {
                for (int m = 1; m <= members.size; m++) {
                    if (needsCode(number, m) && selected(number, m) < 0) {
                        gaps++;
                    }
                }
            }
            return gaps;
        }

        private boolean needsCode(int number, int member) {
            return links.isLoadable(number)
                && !classes.isAbstract(number)
                && hasBit(members.virtualOnes, member)
                && links.isProperSuper(number, members.owners[member]);
        }
    }

    /** Which loaders must agree on which names, and where they do not. */
    private static final class Agreements {
        final Loaders loaders;
        // Loaders that must agree on a name bear the same group there.
        private final int[][] groups = new int[NAMES][LOADERS];
        final int[] names = new int[MOST_CONFLICTS];
        final int[] firsts = new int[MOST_CONFLICTS];
        final int[] seconds = new int[MOST_CONFLICTS];
        int size = 0;

        Agreements(Loaders loaders) {
            this.loaders = loaders;
        }

        void clear() {
            size = 0;
            for (int name = 0; name < NAMES; name++) {
                for (int loader = 0; loader < LOADERS; loader++) {
                    groups[name][loader] = loader;
                }
            }
        }

        // Whole groups are joined, since loaders must agree in a chain too.
        void join(int type, int first, int second) {
            if (type == NUMBER_TYPE) {
                return;
            }
            int kept = groups[type][first];
            int dropped = groups[type][second];
            for (int loader = 0; loader < LOADERS; loader++) {
                if (groups[type][loader] == dropped) {
                    groups[type][loader] = kept;
                }
            }
        }

        void listConflicts() {
            for (int name = 0; name < NAMES; name++) {
                for (int first = 0; first < LOADERS; first++) {
                    for (int second = first + 1; second < LOADERS; second++) {
                        if (areInConflict(name, first, second)) {
                            names[size] = name;
                            firsts[size] = first;
                            seconds[size] = second;
                            size++;
                        }
                    }
                }
            }
        }

        private boolean areInConflict(int name, int first, int second) {
            int one = loaders.found(first, name);
            int other = loaders.found(second, name);
            return groups[name][first] == groups[name][second] && one != 0 && other != 0 && one != other;
        }
    }
}
