/**
 * The sentences of the document that say what becomes of loaders, classes, members and references at
 * their boundaries: for each one a test of its own, with the sentence's words at its head.
 */
public final class BoundaryTests {
    private static final int REFUSED = LinkAudit.REFUSED;
    private static final int NO_CLASS = LinkAudit.NO_CLASS;
    private static final int CIRCULAR = LinkAudit.CIRCULAR;
    private static final int INCOMPATIBLE = LinkAudit.INCOMPATIBLE;
    private static final int ILLEGAL = LinkAudit.ILLEGAL;
    private static final int NO_MEMBER = LinkAudit.NO_MEMBER;
    private static final int INSTANCE = LinkAudit.INSTANCE;
    private static final int NO_CODE = LinkAudit.NO_CODE;
    private static final int UNLOADED = LinkAudit.UNLOADED;
    private static final int PUBLIC = LinkAudit.PUBLIC;
    private static final int PROTECTED = LinkAudit.PROTECTED;
    private static final int PACKAGE = LinkAudit.PACKAGE;
    private static final int PRIVATE = LinkAudit.PRIVATE;
    private static final int STATIC = LinkAudit.STATIC;
    private static final int ABSTRACT = LinkAudit.ABSTRACT;
    private static final int NONE = 12;
    private static final int NUMBER = 12;
    private static final int CLOSED = 0;
    private static final int OPEN = LinkAudit.IS_PUBLIC;
    private static final int OPEN_ABSTRACT = LinkAudit.IS_PUBLIC | LinkAudit.IS_ABSTRACT;
    private static final int OPEN_FINAL = LinkAudit.IS_PUBLIC | LinkAudit.IS_FINAL;
    private static final int OPEN_INTERFACE = LinkAudit.IS_PUBLIC | LinkAudit.IS_INTERFACE;
    private static String sentence = "";
    private static int wrong = 0;

    public static void main(String[] args) {
        newObject();
        packagesOfNames();
        numbersAreNoNames();
        emptyAndFullSetsOfInterfaces();
        interfacesCountAsAbstract();
        findAsksTheHostFirst();
        findAsksTheFirstProviderThatHasOne();
        findComesToItsOwnLast();
        findOfMaskedNames();
        findOfTheHost();
        neighbours();
        mayUse();
        loadOfItself();
        loadOfACircle();
        loadOfWhatIsMetTwice();
        loadOfNothing();
        loadOfWhatCannotBe();
        loadOfUnfitSupers();
        loadOfUnfitInterfaces();
        loadOfWhatMayNotBeUsed();
        loadGoesInOrder();
        loadOfOneAlone();
        loadOfTheHighest();
        loadOfTheHighestFromBelow();
        subclassOfItself();
        superinterfacesOfAllSorts();
        resolveGoesInOrder();
        reachOfPublic();
        reachOfProtected();
        reachOfPackage();
        reachOfPrivate();
        fieldsOwnFirst();
        fieldsOfInterfacesByRisingName();
        fieldsOfTheSuperLast();
        methodsOwnFirst();
        methodsOfInterfacesHaveNoSuper();
        methodsJustOneWithCode();
        methodsLeastNumberElse();
        methodsElseNothing();
        verdictUnloadedFirst();
        verdictOfNew();
        verdictOfFieldsInOrder();
        verdictOfKinds();
        verdictOfMethodsInOrder();
        coversNeitherStaticNorPrivate();
        coversPublicOrProtected();
        coversPackageOfNeighbours();
        coversPackageByAnother();
        coversPackageByAProperOneBetween();
        overridesProperOnesOnly();
        overridesOfLoadableOnes();
        selectRefusesClasses();
        selectRefusesMembers();
        selectOfPrivate();
        selectFromTheReceiverUp();
        selectAmongInterfaces();
        selectOfAbstract();
        selectOfNotPublic();
        gapsOfWhichClasses();
        gapsOfWhichMethods();
        gapsForEachCode();
        agreeByReferences();
        agreeByOverriding();
        agreeInAChain();
        agreeInAChainWithTheHost();
        conflictsNeedBoth();
        conflictsByRisingNameAndLoaders();
        conflictsAtTheirMost();
        faultsAreSummed();
        System.out.println(wrong == 0 ? "all boundaries hold" : wrong + " answers are not as due");
        if (wrong != 0) {
            System.exit(1);
        }
    }

    private static void says(String words) {
        sentence = words;
    }

    private static void due(String call, int got, int want) {
        if (got != want) {
            wrong++;
            System.out.println("\"" + sentence + "\" " + call + ": answered " + got + ", due is " + want);
        }
    }

    private static void holds(String what, boolean got) {
        due(what, got ? 1 : 0, 1);
    }

    /** A method of the name 0, from a number to a number. */
    private static int plain(LinkAudit x, int owner, int flags) {
        return x.method(owner, 0, NUMBER, NUMBER, flags);
    }

    /** Verdict of a new reference by this kind to the plain method, or to a field of the name 0 and a number. */
    private static int verdict(LinkAudit x, int from, int kind, int className) {
        return x.verdict(x.reference(from, kind * 4, className, NUMBER, NUMBER));
    }

    // Promise 1

    private static void newObject() {
        says("makes an object in the state that the terms give.");
        LinkAudit used = new LinkAudit();
        used.define(1, 0, OPEN, NONE, 0);
        plain(used, 1, ABSTRACT);
        used.reference(1, 0, 0, 0, 0);
        used.mask(1, 0, true);
        used.provide(1, 2);
        LinkAudit x = new LinkAudit();
        for (int what = 0; what < 3; what++) {
            due("nothing is there", x.count(what), 0);
        }
        due("no gaps", x.gaps(), 0);
        due("no conflicts", x.conflicts(), 0);
        due("no faults", x.faults(), 0);
        for (int loader = 1; loader <= 4; loader++) {
            due("no provider", x.provide(loader, 0), 1);
        }
        x.define(0, 0, OPEN, NONE, 0);
        for (int loader = 0; loader <= 4; loader++) {
            due("no mask", x.find(loader, 0), 1);
        }
    }

    // Names, types and classes

    private static void packagesOfNames() {
        says("NAMES of classes 0 .. 11; the PACKAGE of a name is name / 4.");
        for (int one = 0; one < 12; one++) {
            for (int other = 0; other < 12; other++) {
                LinkAudit x = new LinkAudit();
                x.define(2, one, CLOSED, NONE, 0);
                x.define(2, other, CLOSED, NONE, 0);
                int from = one == other ? 1 : 2;
                boolean near = one / 4 == other / 4;
                due(other + " of " + one, verdict(x, from, LinkAudit.NEW, one), near ? 1 : ILLEGAL);
            }
        }
    }

    private static void numbersAreNoNames() {
        says("TYPES are the names, and 12, a number.");
        for (int type = 0; type <= 12; type++) {
            LinkAudit x = new LinkAudit();
            x.define(0, type == 0 ? 1 : 0, OPEN, NONE, 0);
            for (int loader = 1; loader <= 2; loader++) {
                x.define(loader, type == 12 ? 11 : type, OPEN, NONE, 0);
                x.define(loader, type == 4 ? 5 : 4, OPEN, type == 0 ? 1 : 0, 0);
            }
            x.method(1, 0, type, type, 0);
            x.method(3, 0, type, type, 0);
            x.method(5, 0, type, type, 0);
            due("conflicts on the type " + type, x.conflicts(), type == 12 ? 0 : 1);
            due("its name", x.conflict(0, 0), type == 12 ? REFUSED : type);
        }
    }

    private static void emptyAndFullSetsOfInterfaces() {
        says("and a set of names of INTERFACES.");
        LinkAudit x = new LinkAudit();
        for (int name = 0; name < 12; name++) {
            x.define(1, name, OPEN_INTERFACE, NONE, 0);
        }
        x.define(2, 0, OPEN, NONE, 4095);
        due("the first name is its own", x.load(13), CIRCULAR);
        x.provide(2, 1);
        due("all are found", x.load(13), 13);
        for (int name = 0; name < 12; name++) {
            x.method(name + 1, 0, name, NUMBER, ABSTRACT);
        }
        due("a gap for each", x.gaps(), 12);
        x.define(3, 0, OPEN, NONE, 0);
        due("a set of none", x.load(14), 14);
        due("has no gaps", x.gaps(), 12);
        x.define(4, 1, OPEN, NONE, 1 << 11);
        x.define(4, 2, OPEN, NONE, 1 << 0);
        x.provide(4, 1);
        due("a set of the last", x.select(15, 12), NO_CODE);
        due("and of no other", x.select(15, 11), REFUSED);
        due("a set of the first", x.select(16, 1), NO_CODE);
        due("and of no other one", x.select(16, 2), REFUSED);
    }

    private static void interfacesCountAsAbstract() {
        says("(An interface counts as abstract.)");
        LinkAudit x = new LinkAudit();
        x.define(1, 0, OPEN_INTERFACE, NONE, 0);
        x.define(1, 1, OPEN_INTERFACE, NONE, 1 << 0);
        plain(x, 1, ABSTRACT);
        due("NEW", verdict(x, 1, LinkAudit.NEW, 1), INSTANCE);
        due("no gap", x.gaps(), 0);
    }

    // What a loader finds

    private static void findAsksTheHostFirst() {
        says("if it does not mask the name: the host's class of that name");
        for (int loader = 1; loader <= 4; loader++) {
            LinkAudit x = new LinkAudit();
            int other = loader % 4 + 1;
            x.define(loader, 6, OPEN, NONE, 0);
            x.define(other, 6, OPEN, NONE, 0);
            x.provide(loader, other);
            x.define(0, 6, CLOSED, NONE, 0);
            due("the host's, though it came last and is not public", x.find(loader, 6), 3);
            due("but not for another name", x.find(loader, 7), NO_CLASS);
            x.mask(other, 6, true);
            due("though a provider masks it", x.find(loader, 6), 3);
        }
    }

    private static void findAsksTheFirstProviderThatHasOne() {
        says("if there is none, the class of that name of its first provider that has one itself");
        LinkAudit x = new LinkAudit();
        x.provide(1, 4);
        x.provide(1, 0);
        x.provide(1, 2);
        x.provide(2, 3);
        x.define(3, 5, OPEN, NONE, 0);
        due("not what a provider only finds", x.find(1, 5), NO_CLASS);
        due("though that one does", x.find(2, 5), 1);
        x.define(1, 5, OPEN, NONE, 0);
        x.define(2, 5, OPEN, NONE, 0);
        due("the third provider's, before its own", x.find(1, 5), 3);
        x.define(4, 5, OPEN, NONE, 0);
        due("the first provider's, though its number is higher", x.find(1, 5), 4);
        x.mask(4, 5, true);
        due("though that one masks the name", x.find(1, 5), 4);
        due("the provider's own provider is not asked by it", x.find(4, 5), 4);
    }

    private static void findComesToItsOwnLast() {
        says("if there is none, or it masks the name, its own class of that name, or nothing.");
        LinkAudit x = new LinkAudit();
        due("nothing", x.find(3, 11), NO_CLASS);
        x.define(3, 11, OPEN, NONE, 0);
        due("its own", x.find(3, 11), 1);
        x.provide(3, 1);
        due("its own, for its provider has none", x.find(3, 11), 1);
        x.provide(1, 3);
        due("for the other one that is a provider's", x.find(1, 11), 1);
        due("a loader that is no provider's", x.find(2, 11), NO_CLASS);
    }

    private static void findOfMaskedNames() {
        says("or it masks the name");
        LinkAudit x = new LinkAudit();
        x.define(0, 3, OPEN, NONE, 0);
        x.define(2, 3, OPEN, NONE, 0);
        x.provide(1, 2);
        x.mask(1, 3, true);
        due("neither the host's nor a provider's", x.find(1, 3), NO_CLASS);
        x.define(1, 3, OPEN, NONE, 0);
        due("but its own", x.find(1, 3), 3);
        x.mask(1, 3, false);
        due("not any more", x.find(1, 3), 1);
        x.mask(1, 2, true);
        x.mask(1, 4, true);
        due("the names beside it", x.find(1, 3), 1);
    }

    private static void findOfTheHost() {
        says("(The host finds its own.)");
        LinkAudit x = new LinkAudit();
        for (int loader = 1; loader <= 4; loader++) {
            x.define(loader, 0, OPEN, NONE, 0);
        }
        due("none of the others'", x.find(0, 0), NO_CLASS);
        x.define(0, 0, OPEN, NONE, 0);
        due("its own", x.find(0, 0), 5);
    }

    // Neighbours and use

    private static void neighbours() {
        says("Two classes are NEIGHBOURS if they have the same loader and package.");
        LinkAudit x = new LinkAudit();
        x.define(1, 4, OPEN, NONE, 0);
        x.define(1, 7, OPEN, NONE, 0);
        x.define(1, 3, OPEN, NONE, 0);
        x.define(1, 8, OPEN, NONE, 0);
        x.define(2, 7, OPEN, NONE, 0);
        x.provide(2, 1);
        x.field(1, 0, NUMBER, PACKAGE);
        due("both alike", verdict(x, 2, LinkAudit.FIELD, 4), 1);
        due("the package below", verdict(x, 3, LinkAudit.FIELD, 4), ILLEGAL);
        due("the package above", verdict(x, 4, LinkAudit.FIELD, 4), ILLEGAL);
        due("another loader", verdict(x, 5, LinkAudit.FIELD, 4), ILLEGAL);
        due("itself", verdict(x, 1, LinkAudit.FIELD, 4), 1);
    }

    private static void mayUse() {
        says("A class D may USE a class C if C is public or they are neighbours.");
        for (int flags = 0; flags < 8; flags++) {
            LinkAudit x = new LinkAudit();
            x.define(1, 0, flags, NONE, 0);
            x.define(1, 3, CLOSED, NONE, 0);
            x.define(1, 4, CLOSED, NONE, 0);
            x.define(2, 1, CLOSED, NONE, 0);
            x.provide(2, 1);
            x.field(1, 0, NUMBER, 0);
            boolean isPublic = (flags & LinkAudit.IS_PUBLIC) != 0;
            due("a neighbour, flags " + flags, verdict(x, 2, LinkAudit.FIELD, 0), 1);
            due("another package, flags " + flags, verdict(x, 3, LinkAudit.FIELD, 0), isPublic ? 1 : ILLEGAL);
            due("another loader, flags " + flags, verdict(x, 4, LinkAudit.FIELD, 0), isPublic ? 1 : ILLEGAL);
        }
    }

    // Loading

    private static void loadOfItself() {
        says("if C is being loaded already (by what asks for it): CIRCULAR.");
        LinkAudit x = new LinkAudit();
        x.define(1, 0, OPEN, 0, 0);
        due("its own super", x.load(1), CIRCULAR);
        x.define(1, 1, OPEN_INTERFACE, NONE, 1 << 1);
        due("its own interface", x.load(2), CIRCULAR);
        x.define(1, 2, OPEN, NONE, 1 << 2);
        due("its own interface, though it is none", x.load(3), CIRCULAR);
        x.define(1, 3, OPEN_FINAL, 3, 0);
        due("its own super, though it is final", x.load(4), CIRCULAR);
        x.define(0, 0, OPEN, NONE, 0);
        due("its own name, but another class", x.load(1), 1);
    }

    private static void loadOfACircle() {
        says("if C is being loaded already (by what asks for it): CIRCULAR. (through others)");
        for (int length = 2; length <= 12; length++) {
            LinkAudit x = new LinkAudit();
            for (int name = 0; name < length; name++) {
                x.define(3, name, OPEN, (name + 1) % length, 0);
            }
            for (int number = 1; number <= length; number++) {
                due("in a circle of " + length, x.load(number), CIRCULAR);
            }
        }
        LinkAudit x = new LinkAudit();
        x.define(1, 0, OPEN, NONE, 1 << 1);
        x.define(1, 1, OPEN_INTERFACE, NONE, 1 << 2);
        x.define(1, 2, OPEN_INTERFACE, NONE, 1 << 1);
        for (int number = 1; number <= 3; number++) {
            due("in or below a circle of interfaces", x.load(number), CIRCULAR);
        }
        x.define(1, 4, OPEN, 5, 0);
        x.define(1, 5, OPEN, NONE, 1 << 4);
        due("by super, then interface", x.load(4), CIRCULAR);
        due("by interface, then super", x.load(5), CIRCULAR);
    }

    private static void loadOfWhatIsMetTwice() {
        says("by what asks for it");
        LinkAudit x = new LinkAudit();
        x.define(1, 0, OPEN_INTERFACE, NONE, 0);
        x.define(1, 1, OPEN_INTERFACE, NONE, 1 << 0);
        x.define(1, 2, OPEN_INTERFACE, NONE, 1 << 0 | 1 << 1);
        x.define(1, 3, OPEN, NONE, 1 << 0 | 1 << 2);
        x.define(1, 4, OPEN, 3, 1 << 0 | 1 << 1 | 1 << 2);
        for (int number = 5; number >= 1; number--) {
            due("met by many ways, but not in a circle", x.load(number), number);
        }
        for (int number = 1; number <= 5; number++) {
            due("asked again", x.load(number), number);
        }
    }

    private static void loadOfNothing() {
        says("C's loader finds nothing: NO_CLASS");
        LinkAudit x = new LinkAudit();
        x.define(1, 0, OPEN, 11, 0);
        x.define(1, 1, OPEN, NONE, 1 << 11);
        x.define(1, 2, OPEN_INTERFACE, NONE, 1 << 11);
        for (int number = 1; number <= 3; number++) {
            due("nobody has it", x.load(number), NO_CLASS);
        }
        x.define(2, 11, OPEN, NONE, 0);
        due("another loader has it", x.load(1), NO_CLASS);
        x.provide(1, 2);
        due("a provider has it", x.load(1), 1);
        x.mask(1, 11, true);
        due("but it is masked", x.load(1), NO_CLASS);
        x.define(3, 0, OPEN, 10, 0);
        x.define(1, 10, OPEN, 11, 0);
        x.provide(3, 1);
        due("it is C's loader that asks, not the one below", x.load(5), NO_CLASS);
        x.mask(1, 11, false);
        due("though the one below finds nothing", x.find(3, 11), NO_CLASS);
        due("C's does", x.load(5), 5);
    }

    private static void loadOfWhatCannotBe() {
        says("the class found is loaded (its code, if it can't be)");
        LinkAudit x = new LinkAudit();
        x.define(1, 0, OPEN, 7, 0);
        x.define(1, 4, OPEN_FINAL, NONE, 0);
        x.define(1, 1, OPEN, 4, 0);
        x.define(1, 5, CLOSED, NONE, 0);
        x.define(1, 2, OPEN, 5, 0);
        x.define(1, 3, OPEN, 3, 0);
        int[] codes = {NO_CLASS, INCOMPATIBLE, ILLEGAL, CIRCULAR};
        for (int name = 0; name < 4; name++) {
            x.define(1, 8 + name, OPEN, name, 0);
            x.define(2, 8 + name, OPEN, NONE, 1 << name);
            due("a super's", x.load(7 + 2 * name), codes[name]);
        }
        x.provide(2, 1);
        for (int name = 0; name < 4; name++) {
            due("an interface's, before that it is none", x.load(8 + 2 * name), codes[name]);
        }
        LinkAudit y = new LinkAudit();
        y.define(1, 0, OPEN_FINAL, 11, 0);
        y.define(1, 1, CLOSED, 0, 0);
        y.define(1, 4, OPEN, 1, 0);
        due("a super's, before that it is final", y.load(2), NO_CLASS);
        due("a super's super's, before that it may not be used", y.load(3), NO_CLASS);
        y.define(2, 4, OPEN_INTERFACE, NONE, 1 << 11);
        y.define(2, 5, OPEN, 4, 0);
        due("a super's, before that it is an interface", y.load(5), NO_CLASS);
    }

    private static void loadOfUnfitSupers() {
        says("it is an interface or final (for the SUPER) ..: INCOMPATIBLE");
        for (int flags = 0; flags < 16; flags++) {
            if ((flags & 10) != 10) {
                LinkAudit x = new LinkAudit();
                x.define(1, 0, flags, NONE, 0);
                x.define(1, 1, OPEN, 0, 0);
                due("a neighbour, flags " + flags, x.load(2), (flags & 10) == 0 ? 2 : INCOMPATIBLE);
                due("by itself, flags " + flags, x.load(1), 1);
                x.define(1, 4, OPEN, 0, 0);
                int far = (flags & LinkAudit.IS_PUBLIC) != 0 ? 3 : ILLEGAL;
                due("from afar, flags " + flags, x.load(3), (flags & 10) == 0 ? far : INCOMPATIBLE);
            }
        }
    }

    private static void loadOfUnfitInterfaces() {
        says("no interface (for INTERFACES): INCOMPATIBLE");
        for (int flags = 0; flags < 16; flags++) {
            if ((flags & 10) != 10) {
                LinkAudit x = new LinkAudit();
                x.define(1, 0, flags, NONE, 0);
                x.define(1, 1, OPEN, NONE, 1 << 0);
                x.define(1, 2, OPEN_INTERFACE, NONE, 1 << 0);
                x.define(1, 4, OPEN, NONE, 1 << 0);
                boolean fit = (flags & LinkAudit.IS_INTERFACE) != 0;
                due("of a class, flags " + flags, x.load(2), fit ? 2 : INCOMPATIBLE);
                due("of an interface, flags " + flags, x.load(3), fit ? 3 : INCOMPATIBLE);
                int far = (flags & LinkAudit.IS_PUBLIC) != 0 ? 4 : ILLEGAL;
                due("from afar, flags " + flags, x.load(4), fit ? far : INCOMPATIBLE);
            }
        }
    }

    private static void loadOfWhatMayNotBeUsed() {
        says("C may not use it: ILLEGAL.");
        LinkAudit x = new LinkAudit();
        x.define(1, 0, CLOSED, NONE, 0);
        x.define(1, 1, LinkAudit.IS_INTERFACE, NONE, 0);
        x.define(1, 3, OPEN, 0, 1 << 1);
        due("a neighbour", x.load(3), 3);
        x.define(1, 4, OPEN, 0, 0);
        due("a super of another package", x.load(4), ILLEGAL);
        x.define(1, 5, OPEN, NONE, 1 << 1);
        due("an interface of another package", x.load(5), ILLEGAL);
        x.define(2, 2, OPEN, 0, 0);
        x.provide(2, 1);
        due("a super of another loader", x.load(6), ILLEGAL);
        x.define(2, 3, OPEN_INTERFACE, NONE, 1 << 1);
        due("an interface of another loader", x.load(7), ILLEGAL);
        x.define(1, 6, OPEN, 3, 0);
        due("what a super may use", x.load(8), 8);
    }

    private static void loadGoesInOrder() {
        says("Then the SUPER, if it has one, then its INTERFACES by rising name .. What comes first is C's code");
        LinkAudit x = new LinkAudit();
        x.define(1, 5, OPEN, NONE, 0);
        x.define(1, 4, LinkAudit.IS_INTERFACE, NONE, 0);
        x.define(1, 0, OPEN, 11, 1 << 4 | 1 << 5);
        due("the super", x.load(3), NO_CLASS);
        x.define(1, 1, OPEN, 5, 1 << 4 | 1 << 5);
        due("the first interface", x.load(4), ILLEGAL);
        x.define(1, 2, OPEN, NONE, 1 << 5 | 1 << 11);
        due("the lesser name", x.load(5), INCOMPATIBLE);
        x.define(1, 3, OPEN_INTERFACE, NONE, 1 << 6 | 1 << 5);
        due("the lesser name, of an interface", x.load(6), INCOMPATIBLE);
        x.define(1, 6, OPEN, NONE, 1 << 4 | 1 << 11);
        due("the last one", x.load(7), NO_CLASS);
        x.define(1, 7, OPEN, 4, 1 << 11);
        due("the super, of a greater name", x.load(8), INCOMPATIBLE);
        x.define(1, 8, OPEN, 9, 1 << 8);
        x.define(1, 9, OPEN, NONE, 1 << 4);
        due("the super's interface before its own", x.load(9), ILLEGAL);
    }

    private static void loadOfOneAlone() {
        says("without one C is loadable");
        for (int flags = 0; flags < 16; flags++) {
            if ((flags & 10) != 10) {
                LinkAudit x = new LinkAudit();
                x.define(flags % 5, flags % 12, flags, NONE, 0);
                due("flags " + flags, x.load(1), 1);
            }
        }
    }

    private static void loadOfTheHighest() {
        says("CLASSES are numbered 1, 2, .. as they are defined, at most 16 (all in one row)");
        LinkAudit x = new LinkAudit();
        for (int name = 0; name < 12; name++) {
            due("class " + (name + 1), x.define(1, name, OPEN, name == 0 ? NONE : name - 1, 0), name + 1);
        }
        x.provide(2, 1);
        for (int name = 0; name < 4; name++) {
            due("class " + (name + 13), x.define(2, name, OPEN, name == 0 ? 11 : name - 1, 0), name + 13);
            x.mask(2, name, true);
        }
        plain(x, 1, 0);
        x.field(1, 0, NUMBER, PROTECTED);
        for (int number = 16; number >= 1; number--) {
            due("the class " + number, x.load(number), number);
            due("selects what the topmost one has", x.select(number, 1), 1);
        }
        due("finds its field", verdict(x, 16, LinkAudit.FIELD, 3), 2);
        due("and its method", verdict(x, 16, LinkAudit.CALL, 3), 1);
        due("but no other field", x.verdict(x.reference(16, LinkAudit.FIELD * 4 + 1, 3, NUMBER, 0)), NO_MEMBER);
        due("and no other method", x.verdict(x.reference(16, LinkAudit.CALL * 4 + 1, 3, NUMBER, NUMBER)), NO_MEMBER);
        plain(x, 16, 0);
        holds("overrides it", x.overrides(3, 1));
        due("so it is selected", x.select(16, 1), 3);
        due("for none above", x.select(15, 1), 1);
        x.mask(2, 0, false);
        due("a shorter way: the second name is below the first plugin's first", x.load(16), 16);
        x.mask(2, 11, true);
        due("no class 13", x.load(13), NO_CLASS);
        due("which is above no other now", x.load(16), 16);
    }

    /** Defines the class that stands at this place, from 0 at the top, in a row of sixteen over two loaders. */
    private static int place(LinkAudit x, int place) {
        if (place < 12) {
            return x.define(1, place, OPEN, place == 0 ? NONE : place - 1, 0);
        }
        x.mask(2, place - 12, true);
        return x.define(2, place - 12, OPEN, place == 12 ? 11 : place - 13, 0);
    }

    private static void loadOfTheHighestFromBelow() {
        says("A class is a SUBCLASS of itself, of its super, and so on (defined in any order)");
        LinkAudit x = new LinkAudit();
        x.provide(2, 1);
        for (int place = 15; place >= 0; place--) {
            due("place " + place, place(x, place), 16 - place);
            due("the lowest", x.load(1), place == 0 ? 1 : NO_CLASS);
        }
        x.field(16, 0, NUMBER, PROTECTED);
        due("finds the topmost one's field", verdict(x, 1, LinkAudit.FIELD, 3), 1);
        plain(x, 16, ABSTRACT);
        due("gaps of all fifteen below", x.gaps(), 15);
        // For each step the numbers rise in another order: some supers are loaded already, some are not.
        for (int step = 1; step < 16; step += 2) {
            LinkAudit y = new LinkAudit();
            y.provide(2, 1);
            for (int i = 0; i < 16; i++) {
                place(y, i * step % 16);
            }
            for (int number = 1; number <= 16; number++) {
                due("step " + step, y.load(number), number);
            }
        }
        // The topmost eleven are loaded when the last one asks for them by way of the last but one.
        LinkAudit z = new LinkAudit();
        z.provide(2, 1);
        for (int place = 0; place < 11; place++) {
            place(z, place);
        }
        for (int place = 15; place >= 11; place--) {
            place(z, place);
        }
        due("the lowest, by way of others", z.load(12), 12);
    }

    // Subclasses and superinterfaces

    private static void subclassOfItself() {
        says("A class is a SUBCLASS of itself, of its super, and so on");
        LinkAudit x = new LinkAudit();
        int[] names = {0, 4, 8, 1, 5, 9};
        for (int i = 0; i < names.length; i++) {
            x.define(1, names[i], OPEN, i == 0 ? NONE : names[i - 1], 0);
        }
        x.define(1, 10, OPEN, NONE, 0);
        x.field(1, 0, NUMBER, PROTECTED);
        x.method(1, 1, NUMBER, NUMBER, PUBLIC);
        for (int number = 1; number <= 6; number++) {
            due("class " + number, verdict(x, number, LinkAudit.FIELD, 0), 1);
            due("selects for " + number, x.select(number, 2), 2);
        }
        due("no subclass", verdict(x, 7, LinkAudit.FIELD, 0), ILLEGAL);
        due("selects for no subclass", x.select(7, 2), REFUSED);
    }

    private static void superinterfacesOfAllSorts() {
        says("its SUPERINTERFACES are its interfaces, their interfaces and so on, and those of its superclasses.");
        LinkAudit x = new LinkAudit();
        x.define(1, 0, OPEN_INTERFACE, NONE, 0);
        x.define(1, 1, OPEN_INTERFACE, NONE, 1 << 0);
        x.define(1, 2, OPEN_INTERFACE, NONE, 1 << 1);
        x.define(1, 3, OPEN, NONE, 1 << 2);
        x.define(1, 4, OPEN, 3, 0);
        x.define(1, 5, OPEN, 4, 0);
        x.define(1, 6, OPEN_INTERFACE, NONE, 0);
        for (int number = 1; number <= 3; number++) {
            x.method(number, number, NUMBER, NUMBER, 0);
        }
        x.method(7, 0, NUMBER, NUMBER, 0);
        for (int number = 4; number <= 6; number++) {
            for (int member = 1; member <= 3; member++) {
                due("for " + number, x.select(number, member), member);
            }
            due("of no superinterface, for " + number, x.select(number, 4), REFUSED);
        }
    }

    // Resolving

    private static void resolveGoesInOrder() {
        says("D's loader finds nothing: NO_CLASS; the code of the class found; D may not use it: ILLEGAL; else that class.");
        LinkAudit x = new LinkAudit();
        x.define(1, 0, OPEN, NONE, 0);
        due("nothing", verdict(x, 1, LinkAudit.NEW, 4), NO_CLASS);
        x.define(1, 4, CLOSED, 4, 0);
        due("its code, before that it may not be used", verdict(x, 1, LinkAudit.NEW, 4), CIRCULAR);
        x.define(1, 5, CLOSED, NONE, 0);
        due("may not be used", verdict(x, 1, LinkAudit.NEW, 5), ILLEGAL);
        x.define(1, 6, OPEN, NONE, 0);
        due("that class", verdict(x, 1, LinkAudit.NEW, 6), 4);
        x.define(1, 7, OPEN, 11, 0);
        due("a code of another sort", verdict(x, 1, LinkAudit.NEW, 7), NO_CLASS);
        x.define(1, 8, OPEN, 7, 1 << 6);
        due("a code of its super", verdict(x, 1, LinkAudit.NEW, 8), NO_CLASS);
        x.define(2, 9, OPEN, NONE, 0);
        due("of a loader that is not asked", verdict(x, 1, LinkAudit.NEW, 9), NO_CLASS);
        for (int kind = LinkAudit.FIELD; kind <= LinkAudit.CALL; kind++) {
            due("before the member is looked for", verdict(x, 1, kind, 5), ILLEGAL);
        }
    }

    // Reach

    /** Verdicts for a field of the class 1 with this access, of: itself, a neighbour, a subclass elsewhere, others. */
    private static void reach(int access, int itself, int neighbour, int subclass, int stranger) {
        LinkAudit x = new LinkAudit();
        x.define(1, 0, OPEN, NONE, 0);
        x.define(1, 3, OPEN, NONE, 0);
        x.define(1, 4, OPEN, 0, 0);
        x.define(1, 5, OPEN, 4, 0);
        x.define(1, 6, OPEN, NONE, 0);
        x.define(2, 1, OPEN, NONE, 0);
        x.define(2, 2, OPEN, 0, 0);
        x.provide(2, 1);
        x.field(1, 0, NUMBER, access);
        due("itself", verdict(x, 1, LinkAudit.FIELD, 0), itself);
        due("a neighbour", verdict(x, 2, LinkAudit.FIELD, 0), neighbour);
        due("a subclass of another package", verdict(x, 3, LinkAudit.FIELD, 0), subclass);
        due("its subclass", verdict(x, 4, LinkAudit.FIELD, 0), subclass);
        due("another package", verdict(x, 5, LinkAudit.FIELD, 0), stranger);
        due("another loader", verdict(x, 6, LinkAudit.FIELD, 0), stranger);
        due("a subclass of another loader", verdict(x, 7, LinkAudit.FIELD, 0), subclass);
        due("itself, through a subclass", verdict(x, 1, LinkAudit.FIELD, 5), itself);
        due("a neighbour, through a subclass", verdict(x, 2, LinkAudit.FIELD, 5), neighbour);
        due("a neighbour of the subclass alone", verdict(x, 5, LinkAudit.FIELD, 5), stranger);
    }

    private static void reachOfPublic() {
        says("D may REACH a member of a class E: it is PUBLIC");
        reach(PUBLIC, 1, 1, 1, 1);
    }

    private static void reachOfProtected() {
        says("PROTECTED and D is a neighbour or a subclass of E");
        reach(PROTECTED, 1, 1, 1, ILLEGAL);
    }

    private static void reachOfPackage() {
        says("PACKAGE and D is a neighbour of E");
        reach(PACKAGE, 1, 1, ILLEGAL, ILLEGAL);
    }

    private static void reachOfPrivate() {
        says("PRIVATE and D is E. (A class is its own neighbour.)");
        reach(PRIVATE, 1, ILLEGAL, ILLEGAL, ILLEGAL);
    }

    // Finding fields

    private static void fieldsOwnFirst() {
        says("To FIND a field of a name and type in a class C: C's own");
        LinkAudit x = new LinkAudit();
        x.define(1, 0, OPEN, NONE, 0);
        x.define(1, 1, OPEN_INTERFACE, NONE, 0);
        x.define(1, 2, OPEN, 0, 1 << 1);
        x.field(1, 0, NUMBER, 0);
        x.field(2, 0, NUMBER, 0);
        x.field(3, 0, NUMBER, PRIVATE);
        due("its own", verdict(x, 3, LinkAudit.FIELD, 2), 3);
        due("its own, though it may not be reached", verdict(x, 1, LinkAudit.FIELD, 2), ILLEGAL);
        x.field(3, 1, 0, 0);
        due("another name", x.verdict(x.reference(3, LinkAudit.FIELD * 4 + 2, 2, 0, 0)), NO_MEMBER);
        due("another type", x.verdict(x.reference(3, LinkAudit.FIELD * 4 + 1, 2, 1, 0)), NO_MEMBER);
        due("both alike", x.verdict(x.reference(3, LinkAudit.FIELD * 4 + 1, 2, 0, 0)), 4);
    }

    private static void fieldsOfInterfacesByRisingName() {
        says("else in its interfaces, by rising name, each in this way");
        LinkAudit x = new LinkAudit();
        x.define(1, 3, OPEN_INTERFACE, NONE, 0);
        x.define(1, 2, OPEN_INTERFACE, NONE, 0);
        x.define(1, 1, OPEN_INTERFACE, NONE, 1 << 3);
        x.define(1, 0, OPEN, NONE, 1 << 1 | 1 << 2);
        x.reference(4, LinkAudit.FIELD * 4, 0, NUMBER, 0);
        due("none", x.verdict(0), NO_MEMBER);
        x.field(2, 0, NUMBER, 0);
        due("of the second interface", x.verdict(0), 1);
        x.field(1, 0, NUMBER, STATIC);
        due("of the first one's interface, though of a higher name", x.verdict(0), INCOMPATIBLE);
        x.field(3, 0, NUMBER, 0);
        due("of the first interface", x.verdict(0), 3);
        due("for an interface in this way too", verdict(x, 4, LinkAudit.FIELD_STATIC, 1), INCOMPATIBLE);
        LinkAudit y = new LinkAudit();
        y.define(1, 1, OPEN, NONE, 1 << 0 | 1 << 11);
        y.define(1, 0, OPEN_INTERFACE, NONE, 0);
        y.define(1, 11, OPEN_INTERFACE, NONE, 0);
        y.field(3, 0, NUMBER, 0);
        due("the last name", verdict(y, 1, LinkAudit.FIELD, 1), 1);
        y.field(2, 0, NUMBER, 0);
        due("the first name", verdict(y, 1, LinkAudit.FIELD, 1), 2);
    }

    private static void fieldsOfTheSuperLast() {
        says("else in its super.");
        LinkAudit x = new LinkAudit();
        x.define(1, 0, OPEN, NONE, 1 << 4);
        x.define(1, 1, OPEN, 0, 1 << 5);
        x.define(1, 2, OPEN, 1, 1 << 6);
        x.define(1, 4, OPEN_INTERFACE, NONE, 0);
        x.define(1, 5, OPEN_INTERFACE, NONE, 0);
        x.define(1, 6, OPEN_INTERFACE, NONE, 0);
        x.reference(3, LinkAudit.FIELD * 4, 2, NUMBER, 0);
        int[] owners = {4, 1, 5, 2, 6, 3};
        for (int i = 0; i < owners.length; i++) {
            due("nearer than " + i, x.field(owners[i], 0, NUMBER, 0), i + 1);
            due("of the class " + owners[i], x.verdict(0), i + 1);
        }
    }

    // Finding methods

    private static void methodsOwnFirst() {
        says("To FIND a method of a name and types in a class C: C's own; else, if C is no interface, its super's own, and so on up.");
        LinkAudit x = new LinkAudit();
        x.define(1, 0, OPEN, NONE, 0);
        x.define(1, 1, OPEN, 0, 1 << 3);
        x.define(1, 2, OPEN, 1, 1 << 3);
        x.define(1, 3, OPEN_INTERFACE, NONE, 0);
        x.reference(3, LinkAudit.CALL * 4, 2, NUMBER, NUMBER);
        plain(x, 4, 0);
        due("an interface's, else", x.verdict(0), 1);
        plain(x, 1, 0);
        due("the topmost one's", x.verdict(0), 2);
        plain(x, 2, STATIC);
        due("its super's, though static", x.verdict(0), INCOMPATIBLE);
        plain(x, 3, ABSTRACT);
        due("its own, though abstract", x.verdict(0), 4);
        due("for the super its own", verdict(x, 3, LinkAudit.CALL_STATIC, 1), 3);
        due("for the topmost its own", verdict(x, 3, LinkAudit.CALL, 0), 2);
    }

    private static void methodsOfInterfacesHaveNoSuper() {
        says("else, if C is no interface");
        LinkAudit x = new LinkAudit();
        x.define(1, 0, OPEN_INTERFACE, NONE, 0);
        x.define(1, 1, OPEN_INTERFACE, NONE, 1 << 0);
        x.define(1, 2, OPEN_INTERFACE, NONE, 1 << 1);
        plain(x, 1, STATIC);
        due("its own static one", verdict(x, 1, LinkAudit.CALL_STATIC, 0), 1);
        due("a superinterface's static one", verdict(x, 1, LinkAudit.CALL_STATIC, 1), NO_MEMBER);
        plain(x, 2, PRIVATE);
        due("its own PRIVATE one", verdict(x, 2, LinkAudit.CALL_INTERFACE, 1), 2);
        due("a superinterface's PRIVATE one", verdict(x, 2, LinkAudit.CALL_INTERFACE, 2), NO_MEMBER);
    }

    private static void methodsJustOneWithCode() {
        says("MOST SPECIFIC .. if just one of them is not abstract, that");
        LinkAudit x = new LinkAudit();
        x.define(1, 0, OPEN_INTERFACE, NONE, 0);
        x.define(1, 1, OPEN_INTERFACE, NONE, 1 << 0);
        x.define(1, 2, OPEN_INTERFACE, NONE, 0);
        x.define(1, 3, OPEN, NONE, 1 << 0 | 1 << 1 | 1 << 2);
        x.reference(4, LinkAudit.CALL * 4, 3, NUMBER, NUMBER);
        plain(x, 1, ABSTRACT);
        plain(x, 3, ABSTRACT);
        plain(x, 2, 0);
        due("one, beside an abstract one that is most specific too", x.verdict(0), 3);
        LinkAudit y = new LinkAudit();
        y.define(1, 0, OPEN_INTERFACE, NONE, 0);
        y.define(1, 1, OPEN_INTERFACE, NONE, 1 << 0);
        y.define(1, 2, OPEN_INTERFACE, NONE, 1 << 1);
        y.define(1, 3, OPEN, NONE, 1 << 2);
        plain(y, 1, 0);
        plain(y, 2, 0);
        plain(y, 3, 0);
        due("one above another, and that above a third", verdict(y, 4, LinkAudit.CALL, 3), 3);
        due("and for an interface", verdict(y, 4, LinkAudit.CALL_INTERFACE, 1), 2);
        LinkAudit z = new LinkAudit();
        z.define(1, 0, OPEN_INTERFACE, NONE, 0);
        z.define(1, 1, OPEN_INTERFACE, NONE, 1 << 0);
        z.define(1, 2, OPEN_INTERFACE, NONE, 0);
        z.define(1, 3, OPEN_INTERFACE, NONE, 1 << 2);
        z.define(1, 4, OPEN, NONE, 1 << 1 | 1 << 3);
        plain(z, 1, 0);
        plain(z, 2, ABSTRACT);
        plain(z, 3, 0);
        plain(z, 4, 0);
        due("two that are not most specific, each above another", verdict(z, 5, LinkAudit.CALL, 4), 4);
    }

    private static void methodsLeastNumberElse() {
        says("else the one with the least number of all LIKE methods of the superinterfaces, neither PRIVATE nor static");
        LinkAudit x = new LinkAudit();
        x.define(1, 0, OPEN_INTERFACE, NONE, 0);
        x.define(1, 1, OPEN_INTERFACE, NONE, 1 << 0);
        x.define(1, 2, OPEN_INTERFACE, NONE, 0);
        x.define(1, 3, OPEN, NONE, 1 << 1 | 1 << 2);
        x.define(1, 4, OPEN_INTERFACE, NONE, 0);
        x.define(1, 5, OPEN, NONE, 1 << 1 | 1 << 2 | 1 << 4);
        x.reference(4, LinkAudit.CALL * 4, 3, NUMBER, NUMBER);
        x.reference(6, LinkAudit.CALL * 4, 5, NUMBER, NUMBER);
        plain(x, 5, PRIVATE);
        plain(x, 1, 0);
        due("one alone", x.verdict(0), 2);
        plain(x, 2, ABSTRACT);
        due("no most specific one with code: the least, though it is not most specific", x.verdict(0), 2);
        plain(x, 3, ABSTRACT);
        due("two abstract ones", x.verdict(0), 2);
        due("a PRIVATE one of a lesser number does not count", x.verdict(1), 2);
        LinkAudit y = new LinkAudit();
        y.define(1, 0, OPEN_INTERFACE, NONE, 0);
        y.define(1, 1, OPEN_INTERFACE, NONE, 0);
        y.define(1, 2, OPEN_INTERFACE, NONE, 0);
        y.define(1, 3, OPEN, NONE, 7);
        plain(y, 3, STATIC);
        plain(y, 2, 0);
        plain(y, 1, 0);
        due("two with code: the least number, not the least class", verdict(y, 4, LinkAudit.CALL, 3), 2);
        due("a static one of a lesser number does not count", verdict(y, 4, LinkAudit.CALL_STATIC, 3), INCOMPATIBLE);
        LinkAudit z = new LinkAudit();
        z.define(1, 0, OPEN_INTERFACE, NONE, 0);
        z.define(1, 1, OPEN_INTERFACE, NONE, 1 << 0);
        z.define(1, 2, OPEN_INTERFACE, NONE, 1 << 0);
        z.define(1, 3, OPEN, NONE, 1 << 1 | 1 << 2);
        plain(z, 1, ABSTRACT);
        plain(z, 2, 0);
        plain(z, 3, 0);
        due("two with code: the least of all, though it is above them", verdict(z, 4, LinkAudit.CALL, 3), 1);
    }

    private static void methodsElseNothing() {
        says("if there are any; else nothing.");
        LinkAudit x = new LinkAudit();
        x.define(1, 0, OPEN_INTERFACE, NONE, 0);
        x.define(1, 1, OPEN, NONE, 1 << 0);
        due("none at all", verdict(x, 2, LinkAudit.CALL, 1), NO_MEMBER);
        plain(x, 1, PRIVATE);
        due("a PRIVATE one", verdict(x, 2, LinkAudit.CALL, 1), NO_MEMBER);
        x.method(1, 1, NUMBER, NUMBER, STATIC);
        due("a static one", x.verdict(x.reference(2, LinkAudit.CALL_STATIC * 4 + 1, 1, NUMBER, NUMBER)), NO_MEMBER);
        x.method(1, 0, NUMBER, 0, 0);
        x.method(1, 0, 0, NUMBER, 0);
        due("others that are not LIKE", verdict(x, 2, LinkAudit.CALL, 1), NO_MEMBER);
    }

    // Verdicts

    private static void verdictUnloadedFirst() {
        says("The VERDICT: D is not loadable: UNLOADED.");
        LinkAudit x = new LinkAudit();
        x.define(1, 0, OPEN, NONE, 0);
        x.define(1, 1, OPEN, 11, 0);
        x.define(1, 2, OPEN, 2, 0);
        x.define(1, 4, OPEN, NONE, 1 << 0);
        x.define(1, 5, OPEN, 8, 0);
        x.define(1, 8, CLOSED, NONE, 0);
        for (int from = 2; from <= 5; from++) {
            due("to a class that is", verdict(x, from, LinkAudit.NEW, 0), UNLOADED);
            due("to one that nobody has", verdict(x, from, LinkAudit.CALL, 11), UNLOADED);
        }
        due("to itself", verdict(x, 2, LinkAudit.NEW, 1), UNLOADED);
        due("of a class that is, to one that is not", verdict(x, 1, LinkAudit.NEW, 1), NO_CLASS);
        x.define(0, 11, OPEN, NONE, 0);
        due("once it is", x.verdict(0), 1);
    }

    private static void verdictOfNew() {
        says("NEW: it is abstract or an interface: INSTANCE; else the class's number.");
        for (int flags = 0; flags < 16; flags++) {
            if ((flags & 10) != 10) {
                LinkAudit x = new LinkAudit();
                x.define(1, 0, OPEN, NONE, 0);
                x.define(1, 1, flags, NONE, 0);
                due("flags " + flags, verdict(x, 1, LinkAudit.NEW, 1), (flags & 12) == 0 ? 2 : INSTANCE);
            }
        }
        LinkAudit x = new LinkAudit();
        x.define(1, 0, OPEN, NONE, 0);
        plain(x, 1, ABSTRACT);
        due("with an abstract method, but not abstract", verdict(x, 1, LinkAudit.NEW, 0), 1);
    }

    private static void verdictOfFieldsInOrder() {
        says("Fields: FIND it: nothing: NO_MEMBER; D may not reach it: ILLEGAL; it is static and should not be, or the other way round: INCOMPATIBLE; else its number.");
        for (int flags = 0; flags < 8; flags++) {
            LinkAudit x = new LinkAudit();
            x.define(1, 0, OPEN, NONE, 0);
            x.define(1, 4, OPEN, NONE, 0);
            boolean isStatic = (flags & STATIC) != 0;
            due("nothing", verdict(x, 2, LinkAudit.FIELD, 0), NO_MEMBER);
            due("nothing static", verdict(x, 2, LinkAudit.FIELD_STATIC, 0), NO_MEMBER);
            x.field(1, 0, NUMBER, flags);
            boolean far = (flags & 3) != PUBLIC;
            int asField = isStatic ? INCOMPATIBLE : 1;
            int asStatic = isStatic ? 1 : INCOMPATIBLE;
            due("FIELD, flags " + flags, x.verdict(0), far ? ILLEGAL : asField);
            due("FIELD_STATIC, flags " + flags, x.verdict(1), far ? ILLEGAL : asStatic);
            due("FIELD of its own, flags " + flags, verdict(x, 1, LinkAudit.FIELD, 0), asField);
            due("FIELD_STATIC of its own, flags " + flags, verdict(x, 1, LinkAudit.FIELD_STATIC, 0), asStatic);
        }
    }

    private static void verdictOfKinds() {
        says("Methods: the class is an interface with CALL, or none with CALL_INTERFACE: INCOMPATIBLE (CALL_STATIC: either may be)");
        LinkAudit x = new LinkAudit();
        x.define(1, 0, OPEN, NONE, 0);
        x.define(1, 1, OPEN_INTERFACE, NONE, 0);
        x.define(1, 2, OPEN_ABSTRACT, NONE, 0);
        due("CALL of an interface, before that there is none", verdict(x, 1, LinkAudit.CALL, 1), INCOMPATIBLE);
        due("CALL_INTERFACE of a class", verdict(x, 1, LinkAudit.CALL_INTERFACE, 0), INCOMPATIBLE);
        due("CALL_INTERFACE of an abstract class", verdict(x, 1, LinkAudit.CALL_INTERFACE, 2), INCOMPATIBLE);
        due("CALL of a class", verdict(x, 1, LinkAudit.CALL, 0), NO_MEMBER);
        due("CALL of an abstract class", verdict(x, 1, LinkAudit.CALL, 2), NO_MEMBER);
        due("CALL_INTERFACE of an interface", verdict(x, 1, LinkAudit.CALL_INTERFACE, 1), NO_MEMBER);
        due("CALL_STATIC of a class", verdict(x, 1, LinkAudit.CALL_STATIC, 0), NO_MEMBER);
        due("CALL_STATIC of an interface", verdict(x, 1, LinkAudit.CALL_STATIC, 1), NO_MEMBER);
        plain(x, 1, STATIC);
        plain(x, 2, STATIC);
        due("CALL_STATIC, which is there", x.verdict(6), 1);
        due("CALL_STATIC of an interface, which is there", x.verdict(7), 2);
        due("FIELD of an interface", verdict(x, 1, LinkAudit.FIELD, 1), NO_MEMBER);
        due("CALL of an interface, PRIVATE or not", x.verdict(0), INCOMPATIBLE);
    }

    private static void verdictOfMethodsInOrder() {
        says("then FIND it, and so on as for fields.");
        for (int flags = 0; flags < 11; flags++) {
            LinkAudit x = new LinkAudit();
            x.define(1, 0, OPEN, NONE, 0);
            x.define(1, 4, OPEN, NONE, 0);
            boolean isStatic = (flags & STATIC) != 0;
            due("nothing", verdict(x, 2, LinkAudit.CALL, 0), NO_MEMBER);
            due("nothing static", verdict(x, 2, LinkAudit.CALL_STATIC, 0), NO_MEMBER);
            plain(x, 1, flags);
            boolean far = (flags & 3) != PUBLIC;
            int asCall = isStatic ? INCOMPATIBLE : 1;
            int asStatic = isStatic ? 1 : INCOMPATIBLE;
            due("CALL, flags " + flags, x.verdict(0), far ? ILLEGAL : asCall);
            due("CALL_STATIC, flags " + flags, x.verdict(1), far ? ILLEGAL : asStatic);
            due("CALL of its own, flags " + flags, verdict(x, 1, LinkAudit.CALL, 0), asCall);
            due("CALL_STATIC of its own, flags " + flags, verdict(x, 1, LinkAudit.CALL_STATIC, 0), asStatic);
        }
        LinkAudit x = new LinkAudit();
        x.define(1, 0, OPEN_INTERFACE, NONE, 0);
        x.define(1, 1, OPEN, NONE, 0);
        plain(x, 1, STATIC);
        due("CALL_INTERFACE of a static one", verdict(x, 2, LinkAudit.CALL_INTERFACE, 0), INCOMPATIBLE);
        x.method(1, 1, NUMBER, NUMBER, PRIVATE | STATIC);
        int call = x.reference(2, LinkAudit.CALL_INTERFACE * 4 + 1, 0, NUMBER, NUMBER);
        due("CALL_INTERFACE of a PRIVATE static one", x.verdict(call), ILLEGAL);
    }

    // Covering and overriding

    /** Whether a method of a subclass of this loader and name overrides one of the class 1, of the loader 1 and name 0. */
    private static boolean overrides(int loader, int name, int upper, int lower) {
        LinkAudit x = new LinkAudit();
        x.define(1, 0, OPEN, NONE, 0);
        x.define(loader, name, OPEN, 0, 0);
        x.provide(2, 1);
        plain(x, 1, upper);
        plain(x, 2, lower);
        return x.overrides(2, 1);
    }

    private static void coversNeitherStaticNorPrivate() {
        says("if neither is static or PRIVATE");
        for (int upper = 0; upper < 11; upper++) {
            for (int lower = 0; lower < 11; lower++) {
                boolean bare = (upper & STATIC) != 0 || (upper & 3) == PRIVATE;
                boolean bareBelow = (lower & STATIC) != 0 || (lower & 3) == PRIVATE;
                due(lower + " below " + upper, overrides(1, 1, upper, lower) ? 1 : 0, bare || bareBelow ? 0 : 1);
            }
        }
    }

    private static void coversPublicOrProtected() {
        says("M is PUBLIC or PROTECTED");
        for (int lower = PUBLIC; lower <= PACKAGE; lower++) {
            holds("PUBLIC, another package", overrides(1, 4, PUBLIC, lower));
            holds("PROTECTED, another package", overrides(1, 4, PROTECTED, lower));
            holds("PUBLIC, another loader", overrides(2, 1, PUBLIC, lower));
            holds("PROTECTED, another loader", overrides(2, 1, PROTECTED, lower));
        }
    }

    private static void coversPackageOfNeighbours() {
        says("or M is PACKAGE and K and E are neighbours");
        for (int lower = PUBLIC; lower <= PACKAGE; lower++) {
            holds("a neighbour", overrides(1, 3, PACKAGE, lower));
            holds("another package", !overrides(1, 4, PACKAGE, lower));
            holds("another loader", !overrides(2, 1, PACKAGE, lower));
        }
    }

    /** Classes of these names in one row, each the super of the next, with plain methods of these flags (or none, -1). */
    private static LinkAudit row(int[] names, int[] flags) {
        LinkAudit x = new LinkAudit();
        for (int i = 0; i < names.length; i++) {
            x.define(1, names[i], OPEN, i == 0 ? NONE : names[i - 1], 0);
            if (flags[i] >= 0) {
                plain(x, i + 1, flags[i]);
            } else {
                x.field(i + 1, 0, NUMBER, 0);
            }
        }
        return x;
    }

    private static void coversPackageByAnother() {
        says("or M is PACKAGE and m covers a method that covers M");
        int[] names = {0, 1, 4};
        holds("by a PUBLIC one", row(names, new int[] {PACKAGE, PUBLIC, PUBLIC}).overrides(3, 1));
        holds("by a PROTECTED one", row(names, new int[] {PACKAGE, PROTECTED, PACKAGE}).overrides(3, 1));
        holds("not by a PACKAGE one", !row(names, new int[] {PACKAGE, PACKAGE, PUBLIC}).overrides(3, 1));
        holds("not by a PRIVATE one", !row(names, new int[] {PACKAGE, PRIVATE, PUBLIC}).overrides(3, 1));
        holds("not by a static one", !row(names, new int[] {PACKAGE, STATIC, PUBLIC}).overrides(3, 1));
        holds("not by none", !row(names, new int[] {PACKAGE, -1, PUBLIC}).overrides(3, 1));
        holds("by an abstract one", row(names, new int[] {PACKAGE, ABSTRACT, PUBLIC}).overrides(3, 1));
        int[] afar = {0, 4, 8};
        holds("not by one that does not cover it", !row(afar, new int[] {PACKAGE, PUBLIC, PUBLIC}).overrides(3, 1));
        int[] longer = {0, 4, 1, 8};
        LinkAudit x = row(longer, new int[] {PACKAGE, PACKAGE, PUBLIC, PUBLIC});
        holds("past one that covers nothing", x.overrides(4, 1));
        holds("and that one is not covered", !x.overrides(4, 2));
        x = row(longer, new int[] {PACKAGE, PUBLIC, PUBLIC, PUBLIC});
        holds("past one that covers nothing, but is covered itself", x.overrides(4, 1) && x.overrides(4, 2));
        LinkAudit y = new LinkAudit();
        y.define(1, 4, OPEN, 1, 0);
        y.define(1, 1, OPEN, 0, 0);
        y.define(1, 0, OPEN, NONE, 0);
        plain(y, 1, PUBLIC);
        plain(y, 2, PUBLIC);
        plain(y, 3, PACKAGE);
        holds("by another, all made from below", y.overrides(1, 3));
        int[] back = {0, 4, 1};
        x = row(back, new int[] {PACKAGE, PUBLIC, PUBLIC});
        holds("by being a neighbour again", x.overrides(3, 1));
        holds("beside the other one", x.overrides(3, 2));
        due("the one between does not", x.select(2, 1), 1);
        int[] twice = {0, 1, 4, 5, 8};
        x = row(twice, new int[] {PACKAGE, PROTECTED, PACKAGE, PUBLIC, PACKAGE});
        for (int other = 1; other <= 4; other++) {
            holds("by two others, down to " + other, x.overrides(5, other));
        }
    }

    private static void coversPackageByAProperOneBetween() {
        says("of a class that is a proper superclass of K and a proper subclass of E.");
        // The class 3 has a method that is covered by the one of 4 and covers that of 1, but stands beside the two.
        LinkAudit x = new LinkAudit();
        x.define(1, 0, OPEN, NONE, 0);
        x.define(1, 4, OPEN, 0, 0);
        x.define(1, 1, OPEN, 0, 0);
        x.define(1, 5, OPEN, 4, 0);
        plain(x, 1, PACKAGE);
        plain(x, 3, PUBLIC);
        plain(x, 4, PUBLIC);
        holds("one beside it", !x.overrides(3, 1));
        due("and it is not selected", x.select(4, 1), 1);
        // An interface between is no superclass.
        LinkAudit y = new LinkAudit();
        y.define(1, 0, OPEN, NONE, 0);
        y.define(1, 1, OPEN_INTERFACE, NONE, 0);
        y.define(1, 4, OPEN, 0, 1 << 1);
        plain(y, 1, PACKAGE);
        plain(y, 2, PUBLIC);
        plain(y, 3, PUBLIC);
        holds("an interface", !y.overrides(3, 1));
        holds("though that is overridden", y.overrides(3, 2));
    }

    private static void overridesProperOnesOnly() {
        says("m OVERRIDES M if it covers M and K is a proper subclass of E or E is one of its superinterfaces.");
        LinkAudit x = new LinkAudit();
        x.define(1, 0, OPEN, NONE, 1 << 8);
        x.define(1, 1, OPEN, 0, 1 << 9);
        x.define(1, 2, OPEN, 1, 0);
        x.define(1, 3, OPEN, 0, 0);
        x.define(1, 8, OPEN_INTERFACE, NONE, 0);
        x.define(1, 9, OPEN_INTERFACE, NONE, 1 << 10);
        x.define(1, 10, OPEN_INTERFACE, NONE, 0);
        for (int number = 1; number <= 7; number++) {
            plain(x, number, 0);
        }
        int[][] above = {{}, {5}, {1, 5, 6, 7}, {1, 2, 5, 6, 7}, {1, 5}, {}, {7}, {}};
        for (int method = 1; method <= 7; method++) {
            for (int other = 1; other <= 7; other++) {
                boolean want = false;
                for (int each : above[method]) {
                    want |= each == other;
                }
                due("of " + method + " and " + other, x.overrides(method, other) ? 1 : 0, want ? 1 : 0);
            }
        }
    }

    private static void overridesOfLoadableOnes() {
        says("(both of loadable classes)");
        LinkAudit x = new LinkAudit();
        x.define(1, 0, OPEN, NONE, 0);
        x.define(1, 1, OPEN, 0, 1 << 5);
        plain(x, 1, 0);
        plain(x, 2, 0);
        holds("the lower one is not", !x.overrides(2, 1));
        x.define(1, 5, OPEN_INTERFACE, NONE, 0);
        holds("both are", x.overrides(2, 1));
        x.define(0, 0, OPEN_FINAL, NONE, 0);
        holds("its super is another one now, and final", !x.overrides(2, 1));
        x.mask(1, 0, true);
        holds("both are again", x.overrides(2, 1));
        LinkAudit y = new LinkAudit();
        y.define(1, 0, OPEN, 11, 0);
        y.define(1, 1, OPEN, 0, 0);
        plain(y, 1, 0);
        plain(y, 2, 0);
        holds("neither is", !y.overrides(2, 1));
    }

    // Selecting

    private static void selectRefusesClasses() {
        says("Not as said (the class not loadable or an interface ..): REFUSED.");
        LinkAudit x = new LinkAudit();
        x.define(1, 0, OPEN, 11, 0);
        x.define(1, 1, OPEN_INTERFACE, NONE, 0);
        x.define(1, 2, OPEN_ABSTRACT, NONE, 1 << 1);
        x.define(1, 3, OPEN, 3, 0);
        for (int number = 1; number <= 4; number++) {
            plain(x, number, 0);
        }
        due("its super is missing", x.select(1, 1), REFUSED);
        due("an interface, for its own", x.select(2, 2), REFUSED);
        due("an abstract class", x.select(3, 3), 3);
        due("an abstract class, for its interface's", x.select(3, 2), 3);
        due("its own super", x.select(4, 4), REFUSED);
        x.method(1, 1, NUMBER, NUMBER, PRIVATE);
        x.method(2, 1, NUMBER, NUMBER, PRIVATE);
        due("not loadable, a PRIVATE one", x.select(1, 5), REFUSED);
        due("an interface, a PRIVATE one", x.select(2, 6), REFUSED);
        x.define(0, 11, OPEN, NONE, 0);
        due("loadable now", x.select(1, 1), 1);
    }

    private static void selectRefusesMembers() {
        says("Not as said (.. the member no method, static, or not of those): REFUSED.");
        LinkAudit x = new LinkAudit();
        x.define(1, 0, OPEN, NONE, 0);
        x.define(1, 1, OPEN, 0, 0);
        x.define(1, 2, OPEN, 0, 0);
        x.define(1, 3, OPEN_INTERFACE, NONE, 0);
        x.field(1, 0, NUMBER, 0);
        plain(x, 1, STATIC);
        x.method(1, 1, NUMBER, NUMBER, STATIC | PRIVATE);
        plain(x, 2, 0);
        plain(x, 4, 0);
        for (int number = 1; number <= 3; number++) {
            due("a field", x.select(number, 1), REFUSED);
            due("static", x.select(number, 2), REFUSED);
            due("static and PRIVATE", x.select(number, 3), REFUSED);
        }
        due("a subclass's", x.select(1, 4), REFUSED);
        due("of a class beside it", x.select(3, 4), REFUSED);
        due("of an interface that it has not", x.select(2, 5), REFUSED);
        due("its own", x.select(2, 4), 4);
    }

    private static void selectOfPrivate() {
        says("M is PRIVATE: M's number, and nothing more is looked at.");
        LinkAudit x = new LinkAudit();
        x.define(1, 0, OPEN, NONE, 0);
        x.define(1, 1, OPEN, 0, 1 << 2);
        x.define(1, 2, OPEN_INTERFACE, NONE, 0);
        plain(x, 1, PRIVATE);
        plain(x, 2, 0);
        x.method(3, 1, NUMBER, NUMBER, PRIVATE);
        x.method(2, 1, NUMBER, NUMBER, 0);
        due("though a subclass has a like one", x.select(2, 1), 1);
        due("of its own", x.select(1, 1), 1);
        due("an interface's, though it is not PUBLIC", x.select(2, 3), 3);
    }

    private static void selectFromTheReceiverUp() {
        says("Else R and its superclasses, from R up: the first of these with a method that is M or covers M: that method.");
        LinkAudit x = new LinkAudit();
        for (int name = 0; name < 4; name++) {
            x.define(1, name, OPEN, name == 0 ? NONE : name - 1, name == 3 ? 1 << 4 : 0);
        }
        x.define(1, 4, OPEN_INTERFACE, NONE, 0);
        plain(x, 5, 0);
        plain(x, 1, 0);
        due("the topmost one's, before the interface's", x.select(4, 1), 2);
        plain(x, 2, PRIVATE);
        due("past a PRIVATE one", x.select(4, 1), 2);
        plain(x, 3, 0);
        due("a nearer one", x.select(4, 1), 4);
        due("for the topmost one's too", x.select(4, 2), 4);
        due("above it", x.select(2, 2), 2);
        plain(x, 4, 0);
        due("its own", x.select(4, 1), 5);
        due("its own, of itself", x.select(4, 5), 5);
        due("for the one above that", x.select(3, 2), 4);
    }

    private static void selectAmongInterfaces() {
        says("those that are not abstract: just one: that; more: INCOMPATIBLE; none: NO_CODE.");
        LinkAudit x = new LinkAudit();
        x.define(1, 0, OPEN_INTERFACE, NONE, 0);
        x.define(1, 1, OPEN_INTERFACE, NONE, 1 << 0);
        x.define(1, 2, OPEN_INTERFACE, NONE, 1 << 0);
        x.define(1, 3, OPEN, NONE, 1 << 1);
        x.define(1, 4, OPEN, 3, 1 << 2);
        plain(x, 1, 0);
        due("one", x.select(5, 1), 1);
        plain(x, 2, ABSTRACT);
        due("the one with code is not most specific", x.select(5, 1), NO_CODE);
        plain(x, 3, 0);
        due("one of two that are most specific", x.select(5, 1), 3);
        due("for another one's method too", x.select(5, 2), 3);
        x.method(1, 1, NUMBER, NUMBER, ABSTRACT);
        due("none", x.select(5, 4), NO_CODE);
        x.method(2, 1, NUMBER, NUMBER, 0);
        due("one, of the super's interface", x.select(5, 4), 5);
        x.method(3, 1, NUMBER, NUMBER, 0);
        for (int member = 4; member <= 6; member++) {
            due("two", x.select(5, member), INCOMPATIBLE);
        }
        due("two, but the super has just one", x.select(4, 4), 5);
        x.method(1, 2, NUMBER, NUMBER, ABSTRACT);
        x.method(2, 2, NUMBER, NUMBER, PRIVATE);
        x.method(3, 2, NUMBER, NUMBER, STATIC);
        due("PRIVATE and static ones do not count", x.select(5, 7), NO_CODE);
        LinkAudit y = new LinkAudit();
        y.define(1, 0, OPEN_INTERFACE, NONE, 0);
        y.define(1, 1, OPEN_INTERFACE, NONE, 1 << 0);
        y.define(1, 2, OPEN, NONE, 1 << 1);
        plain(y, 2, ABSTRACT);
        plain(y, 1, 0);
        y.method(2, 1, NUMBER, NUMBER, 0);
        y.method(1, 1, NUMBER, NUMBER, 0);
        due("the most specific one was made first, and is abstract", y.select(3, 2), NO_CODE);
        due("the most specific one was made first, and has code", y.select(3, 4), 3);
        due("asked for itself", y.select(3, 3), 3);
    }

    private static void selectOfAbstract() {
        says("The method so got, if it is abstract: NO_CODE");
        LinkAudit x = new LinkAudit();
        x.define(1, 0, OPEN, NONE, 0);
        x.define(1, 1, OPEN, 0, 1 << 2);
        x.define(1, 2, OPEN_INTERFACE, NONE, 0);
        plain(x, 1, ABSTRACT);
        plain(x, 3, 0);
        due("its own", x.select(1, 1), NO_CODE);
        due("a super's, though an interface has code", x.select(2, 1), NO_CODE);
        due("for the interface's method too", x.select(2, 2), NO_CODE);
        x.method(1, 1, NUMBER, NUMBER, ABSTRACT | PROTECTED);
        x.method(3, 1, NUMBER, NUMBER, 0);
        due("before that it is not PUBLIC", x.select(2, 4), NO_CODE);
        plain(x, 2, ABSTRACT);
        x.method(1, 2, NUMBER, NUMBER, 0);
        x.method(2, 2, NUMBER, NUMBER, ABSTRACT);
        due("over one with code", x.select(2, 6), NO_CODE);
    }

    private static void selectOfNotPublic() {
        says("if M is of an interface and it is not PUBLIC: ILLEGAL; else its number.");
        for (int flags = PUBLIC; flags <= PACKAGE; flags++) {
            LinkAudit x = new LinkAudit();
            x.define(1, 0, OPEN, NONE, 0);
            x.define(1, 1, OPEN, 0, 1 << 2);
            x.define(1, 2, OPEN_INTERFACE, NONE, 0);
            plain(x, 1, flags);
            plain(x, 3, 0);
            due("access " + flags, x.select(2, 2), flags == PUBLIC ? 1 : ILLEGAL);
            due("M is of a class", x.select(2, 1), 1);
            plain(x, 2, 0);
            due("a PUBLIC one below", x.select(2, 2), 3);
        }
    }

    // Gaps

    private static void gapsOfWhichClasses() {
        says("A GAP is a pair of a loadable class R that is neither abstract nor an interface");
        int[] flags = {OPEN, OPEN_FINAL, CLOSED, OPEN_ABSTRACT, OPEN_INTERFACE, OPEN_FINAL | OPEN_ABSTRACT};
        int[] want = {1, 1, 1, 0, 0, 0};
        for (int i = 0; i < flags.length; i++) {
            LinkAudit x = new LinkAudit();
            x.define(1, 0, OPEN_INTERFACE, NONE, 0);
            x.define(1, 1, flags[i], NONE, 1 << 0);
            plain(x, 1, ABSTRACT);
            due("flags " + flags[i], x.gaps(), want[i]);
        }
        LinkAudit x = new LinkAudit();
        x.define(1, 0, OPEN_INTERFACE, NONE, 0);
        x.define(1, 1, OPEN, 11, 1 << 0);
        plain(x, 1, ABSTRACT);
        due("not loadable", x.gaps(), 0);
        x.define(0, 11, OPEN, NONE, 0);
        due("loadable now", x.gaps(), 1);
        LinkAudit y = new LinkAudit();
        y.define(1, 0, OPEN, NONE, 1 << 1);
        y.define(1, 1, OPEN_INTERFACE, NONE, 0);
        plain(y, 2, ABSTRACT);
        due("the first class", y.gaps(), 1);
    }

    private static void gapsOfWhichMethods() {
        says("and a method M of its proper superclasses or of its superinterfaces, not static and not PRIVATE");
        LinkAudit x = new LinkAudit();
        x.define(1, 0, OPEN_ABSTRACT, NONE, 1 << 2);
        x.define(1, 1, OPEN, 0, 0);
        x.define(1, 2, OPEN_INTERFACE, NONE, 0);
        plain(x, 2, ABSTRACT);
        due("its own", x.gaps(), 0);
        x.method(1, 1, NUMBER, NUMBER, ABSTRACT);
        due("a proper superclass's", x.gaps(), 1);
        x.method(3, 2, NUMBER, NUMBER, ABSTRACT);
        due("a superinterface's", x.gaps(), 2);
        x.method(1, 0, NUMBER, 0, STATIC);
        x.method(3, 0, NUMBER, 0, STATIC);
        x.method(3, 0, NUMBER, 1, PRIVATE);
        x.method(1, 0, NUMBER, 1, PRIVATE);
        x.field(1, 0, NUMBER, 0);
        due("static, PRIVATE, or a field", x.gaps(), 2);
        plain(x, 1, 0);
        due("a superclass's with code, but below an abstract one", x.gaps(), 3);
        x.define(1, 3, OPEN, 1, 0);
        due("a class below has all these, and its super's", x.gaps(), 7);
    }

    private static void gapsForEachCode() {
        says("for which SELECT gives a code.");
        LinkAudit x = new LinkAudit();
        x.define(1, 0, OPEN_INTERFACE, NONE, 0);
        x.define(1, 1, OPEN_INTERFACE, NONE, 0);
        x.define(1, 2, OPEN, NONE, 3);
        plain(x, 1, 0);
        due("none", x.gaps(), 0);
        x.method(1, 1, NUMBER, NUMBER, ABSTRACT);
        due("NO_CODE", x.gaps(), 1);
        x.method(1, 2, NUMBER, NUMBER, 0);
        x.method(3, 2, NUMBER, NUMBER, PACKAGE);
        due("ILLEGAL", x.gaps(), 2);
        plain(x, 2, 0);
        due("INCOMPATIBLE, of both", x.gaps(), 4);
        due("the two", x.select(3, 1) + x.select(3, 5), 2 * INCOMPATIBLE);
    }

    // Agreement and conflicts

    /** The loaders 1 and 2 have the names 8, 9 and 10 each; 2 asks 1 for the name 0, the class 1; the class 2 is 2's. */
    private static LinkAudit twoLoaders() {
        LinkAudit x = new LinkAudit();
        x.define(1, 0, OPEN, NONE, 0);
        x.define(2, 4, OPEN, 0, 0);
        x.provide(2, 1);
        for (int name = 8; name <= 10; name++) {
            x.define(1, name, OPEN, NONE, 0);
            x.define(2, name, OPEN, NONE, 0);
            x.mask(2, name, true);
        }
        return x;
    }

    private static void agreeByReferences() {
        says("for each reference whose verdict is a member: on its types, D's loader with that of the member's class");
        LinkAudit x = twoLoaders();
        x.method(1, 0, 8, 9, 0);
        x.field(1, 0, 10, 0);
        x.method(1, 1, 8, 9, PACKAGE);
        x.reference(2, LinkAudit.NEW * 4, 0, 8, 9);
        due("NEW has no types", x.conflicts(), 0);
        x.reference(2, LinkAudit.CALL * 4 + 1, 0, 8, 9);
        due("ILLEGAL", x.conflicts(), 0);
        x.reference(2, LinkAudit.CALL_STATIC * 4, 0, 8, 9);
        due("INCOMPATIBLE", x.conflicts(), 0);
        x.reference(2, LinkAudit.CALL * 4 + 2, 0, 8, 9);
        due("NO_MEMBER", x.conflicts(), 0);
        x.reference(1, LinkAudit.CALL * 4, 0, 8, 9);
        due("of the same loader", x.conflicts(), 0);
        x.reference(2, LinkAudit.FIELD * 4, 0, 10, 9);
        due("a field's type alone", x.conflicts(), 1);
        due("which is", x.conflict(0, 0), 10);
        x.reference(2, LinkAudit.CALL * 4, 4, 8, 9);
        due("a method's argument and answer, by a class of its own", x.conflicts(), 3);
        due("the argument", x.conflict(0, 0), 8);
        due("the answer", x.conflict(1, 0), 9);
        due("the lesser loader first", x.conflict(0, 1), 1);
        due("then the other", x.conflict(0, 2), 2);
    }

    private static void agreeByOverriding() {
        says("for each method m of a loadable class K that overrides M of E: on M's types, the loaders of K and E.");
        LinkAudit x = twoLoaders();
        x.method(1, 0, 8, 9, PACKAGE);
        x.method(2, 0, 8, 9, PUBLIC);
        due("not overridden", x.conflicts(), 0);
        x.method(1, 1, 10, NUMBER, PROTECTED);
        due("nothing overrides yet", x.conflicts(), 0);
        x.method(2, 1, 10, NUMBER, PUBLIC);
        due("overridden", x.conflicts(), 1);
        x.method(1, 2, 8, 9, STATIC);
        x.method(2, 2, 8, 9, STATIC);
        due("static ones", x.conflicts(), 1);
        x.define(1, 1, OPEN_INTERFACE, NONE, 0);
        x.define(2, 5, OPEN, NONE, 1 << 1 | 1 << 6);
        x.method(9, 0, 8, 9, ABSTRACT);
        x.method(10, 0, 8, 9, ABSTRACT);
        due("K is not loadable", x.conflicts(), 1);
        x.define(1, 6, OPEN_INTERFACE, NONE, 0);
        due("K is loadable: an interface's, though both are abstract", x.conflicts(), 3);
        LinkAudit y = twoLoaders();
        y.method(2, 0, 8, 9, PUBLIC);
        y.method(1, 0, 8, 9, PUBLIC);
        due("the first member overrides the last", y.conflicts(), 2);
        y.mask(2, 0, true);
        due("not any more", y.conflicts(), 0);
    }

    private static void agreeInAChain() {
        says("They must agree in a chain too.");
        LinkAudit x = new LinkAudit();
        // Each loader asks the one before it, and refers to its class; but for 1 and 4 no one has the name 11.
        for (int loader = 1; loader <= 4; loader++) {
            x.define(loader, loader, OPEN, NONE, 0);
            x.method(loader, 0, 11, NUMBER, 0);
            if (loader > 1) {
                x.provide(loader, loader - 1);
                x.reference(loader, LinkAudit.CALL * 4, loader - 1, 11, NUMBER);
            }
        }
        x.define(1, 11, OPEN, NONE, 0);
        x.define(4, 11, OPEN, NONE, 0);
        due("2 finds that of 1", x.find(2, 11), 5);
        due("3 finds nothing", x.find(3, 11), NO_CLASS);
        due("but through it 4 must agree with both", x.conflicts(), 2);
        due("first of the first", x.conflict(0, 1), 1);
        due("second of the first", x.conflict(0, 2), 4);
        due("first of the second", x.conflict(1, 1), 2);
        due("second of the second", x.conflict(1, 2), 4);
        x.mask(3, 2, true);
        due("the chain is cut", x.conflicts(), 0);
        x.mask(3, 2, false);
        x.method(1, 1, 10, NUMBER, 0);
        x.define(1, 10, OPEN, NONE, 0);
        x.define(4, 10, OPEN, NONE, 0);
        x.reference(2, LinkAudit.CALL * 4 + 1, 1, 10, NUMBER);
        due("1 and 2 must agree on another name, but 3 and 4 on that not", x.conflicts(), 2);
    }

    private static void agreeInAChainWithTheHost() {
        says("They must agree in a chain too. (the host)");
        LinkAudit x = new LinkAudit();
        x.define(0, 0, OPEN, NONE, 0);
        x.define(1, 1, OPEN, NONE, 0);
        x.define(2, 2, OPEN, NONE, 0);
        x.define(0, 8, OPEN, NONE, 0);
        x.define(1, 8, OPEN, NONE, 0);
        x.mask(1, 8, true);
        x.provide(2, 1);
        x.method(1, 0, 8, NUMBER, 0);
        x.method(2, 0, 8, NUMBER, 0);
        x.reference(3, LinkAudit.CALL * 4, 0, 8, NUMBER);
        due("2 with the host, who find the same", x.conflicts(), 0);
        x.reference(3, LinkAudit.CALL * 4, 1, 8, NUMBER);
        due("1 with both", x.conflicts(), 2);
        due("the host is the first", x.conflict(0, 1), 0);
        due("1 is the second", x.conflict(0, 2), 1);
        due("1 is the first", x.conflict(1, 1), 1);
        due("2 is the second", x.conflict(1, 2), 2);
        x.mask(2, 0, true);
        due("2 does not see the host's any more", x.conflicts(), 1);
        due("only 1 and 2 are left", x.conflict(0, 1), 1);
        x.mask(2, 0, false);
        x.mask(2, 1, true);
        due("2 does not see that of 1 any more", x.conflicts(), 0);
    }

    private static void conflictsNeedBoth() {
        says("that must agree on it and both find a class for it, but not the same.");
        LinkAudit x = new LinkAudit();
        x.define(1, 0, OPEN, NONE, 0);
        x.define(2, 4, OPEN, 0, 0);
        x.provide(2, 1);
        x.method(1, 0, 8, NUMBER, 0);
        x.method(2, 0, 8, NUMBER, 0);
        due("neither finds one", x.conflicts(), 0);
        x.define(2, 8, OPEN, NONE, 0);
        due("the second finds one", x.conflicts(), 0);
        x.mask(2, 8, true);
        x.define(1, 8, OPEN, NONE, 0);
        due("both find one", x.conflicts(), 1);
        x.mask(2, 8, false);
        due("the same", x.conflicts(), 0);
        x.define(0, 8, OPEN, NONE, 0);
        due("the same, of the host", x.conflicts(), 0);
        x.mask(1, 8, true);
        due("one of its own, the other the host's", x.conflicts(), 1);
        x.mask(2, 8, true);
        due("each its own", x.conflicts(), 1);
        LinkAudit y = new LinkAudit();
        y.define(1, 0, OPEN, NONE, 0);
        y.define(2, 4, OPEN, 0, 0);
        y.provide(2, 1);
        y.method(1, 0, 8, NUMBER, 0);
        y.method(2, 0, 8, NUMBER, 0);
        y.define(1, 8, OPEN, NONE, 0);
        y.mask(2, 8, true);
        due("the first finds one", y.conflicts(), 0);
        y.define(2, 8, OPEN, 8, 0);
        due("one that is not loadable counts too", y.conflicts(), 1);
    }

    private static void conflictsByRisingNameAndLoaders() {
        says("Of the k-th CONFLICT (from 0), by rising name, then first, then second loader");
        LinkAudit x = new LinkAudit();
        x.define(0, 4, OPEN, NONE, 0);
        for (int loader = 3; loader >= 1; loader--) {
            x.define(loader, 5, OPEN, 4, 0);
            x.define(loader, 11, OPEN, NONE, 0);
            x.define(loader, 0, OPEN, NONE, 0);
        }
        x.method(1, 0, 11, NUMBER, 0);
        x.method(1, 1, 0, NUMBER, 0);
        for (int owner = 2; owner <= 8; owner += 3) {
            x.method(owner, 0, 11, NUMBER, 0);
            x.method(owner, 1, 0, NUMBER, 0);
        }
        int[][] want = {{0, 1, 2}, {0, 1, 3}, {0, 2, 3}, {11, 1, 2}, {11, 1, 3}, {11, 2, 3}};
        due("how many", x.conflicts(), want.length);
        for (int k = 0; k < want.length; k++) {
            for (int what = 0; what < 3; what++) {
                due("of the conflict " + k + " the " + what, x.conflict(k, what), want[k][what]);
            }
        }
        due("no more", x.conflict(want.length, 0), REFUSED);
    }

    private static void conflictsAtTheirMost() {
        says("A CONFLICT is a name and two loaders, the first one less");
        // All five loaders have two names for themselves and must agree on both: ten pairs for each name.
        LinkAudit x = new LinkAudit();
        x.define(0, 0, OPEN, NONE, 0);
        x.method(1, 0, 8, 9, 0);
        for (int loader = 0; loader <= 4; loader++) {
            x.define(loader, 8, OPEN, NONE, 0);
            x.define(loader, 9, OPEN, NONE, 0);
            if (loader > 0) {
                x.mask(loader, 8, true);
                x.mask(loader, 9, true);
                int own = x.define(loader, 4, OPEN, 0, 0);
                x.method(own, 0, 8, 9, 0);
            }
        }
        due("fifteen classes", x.count(0), 15);
        due("twenty conflicts", x.conflicts(), 20);
        int k = 0;
        for (int name = 8; name <= 9; name++) {
            for (int first = 0; first <= 4; first++) {
                for (int second = first + 1; second <= 4; second++) {
                    due("name of " + k, x.conflict(k, 0), name);
                    due("first of " + k, x.conflict(k, 1), first);
                    due("second of " + k, x.conflict(k, 2), second);
                    k++;
                }
            }
        }
        due("no more", x.conflict(k, 0), REFUSED);
        due("all are faults", x.faults(), 20);
    }

    // Promise 16

    private static void faultsAreSummed() {
        says("References whose verdict is a code, GAPS and CONFLICTS together.");
        LinkAudit x = twoLoaders();
        due("none", x.faults(), 0);
        x.reference(2, LinkAudit.NEW, 11, 0, 0);
        x.reference(2, LinkAudit.NEW, 11, 0, 0);
        due("two references, though alike", x.faults(), 2);
        x.reference(2, LinkAudit.NEW, 0, 0, 0);
        due("one with a class", x.faults(), 2);
        x.method(1, 0, 8, 9, 0);
        x.reference(2, LinkAudit.CALL * 4, 0, 8, 9);
        due("one with a member, and two conflicts", x.faults(), 4);
        x.method(1, 1, NUMBER, NUMBER, ABSTRACT);
        due("a gap", x.faults(), 5);
        due("gaps alone", x.gaps(), 1);
        due("conflicts alone", x.conflicts(), 2);
        x.mask(2, 0, true);
        due("all its references are UNLOADED, and no more", x.faults(), 4);
    }
}
