/** For each promise of the document: ordinary inputs, the edges that it names, and wrong inputs. */
public final class PromiseTests {
    private static final int OUT = Integer.MAX_VALUE;
    private static final int FAR_BELOW = Integer.MIN_VALUE;
    private static final int NONE = 12;
    private static final int NUMBER = 12;
    private static final int OPEN = LinkAudit.IS_PUBLIC;
    private static final int OPEN_INTERFACE = LinkAudit.IS_PUBLIC | LinkAudit.IS_INTERFACE;
    private static int wrong = 0;

    public static void main(String[] args) {
        newObjectIsEmpty();
        objectsAreApart();
        provideCountsAndRefuses();
        maskTurnsOnAndOff();
        defineNumbersAndRefuses();
        defineIsFullAtSixteen();
        fieldNumbersAndRefuses();
        methodNumbersAndRefuses();
        membersAreFullAtForty();
        referenceNumbersAndRefuses();
        findAsksHostThenProvidersThenItself();
        loadGivesNumberOrFirstCode();
        loadFollowsProviders();
        loadTellsCircles();
        loadGoesToTheTop();
        verdictOfNew();
        verdictOfResolving();
        verdictOfFields();
        verdictOfFieldsByOrder();
        verdictOfReach();
        verdictOfMethods();
        verdictOfInterfaceMethods();
        selectInClasses();
        selectOfPackageMethods();
        selectInInterfaces();
        selectRefuses();
        overridesByAccess();
        overridesThroughAChain();
        overridesInterfaces();
        gapsAreCounted();
        conflictsOfReferences();
        conflictsOfOverriding();
        conflictsInAChain();
        conflictsWithTheHost();
        conflictsOfLastMember();
        conflictsInOrder();
        faultsAreSummed();
        countTellsSizes();
        refusedChangesNothing();
        System.out.println(wrong == 0 ? "all promises are kept" : wrong + " answers are not as due");
        if (wrong != 0) {
            System.exit(1);
        }
    }

    private static void due(String call, int got, int want) {
        if (got != want) {
            wrong++;
            System.out.println(call + " answered " + got + ", due is " + want);
        }
    }

    private static void due(String call, boolean got, boolean want) {
        due(call, got ? 1 : 0, want ? 1 : 0);
    }

    // Promise 1

    private static void newObjectIsEmpty() {
        LinkAudit x = new LinkAudit();
        for (int loader = 0; loader < 5; loader++) {
            for (int name = 0; name < 12; name++) {
                due("1: find on a new object", x.find(loader, name), LinkAudit.NO_CLASS);
            }
        }
        for (int what = 0; what < 3; what++) {
            due("1: count on a new object", x.count(what), 0);
        }
        due("1: gaps", x.gaps(), 0);
        due("1: conflicts", x.conflicts(), 0);
        due("1: faults", x.faults(), 0);
        due("1: conflict", x.conflict(0, 0), LinkAudit.REFUSED);
        due("1: load", x.load(1), LinkAudit.REFUSED);
        due("1: verdict", x.verdict(0), LinkAudit.REFUSED);
        due("1: select", x.select(1, 1), LinkAudit.REFUSED);
        due("1: overrides", x.overrides(1, 1), false);
        due("1: first provider", x.provide(1, 0), 1);
    }

    private static void objectsAreApart() {
        LinkAudit one = new LinkAudit();
        LinkAudit other = new LinkAudit();
        one.define(0, 0, OPEN, NONE, 0);
        one.provide(1, 2);
        one.mask(1, 3, true);
        due("1: the other's classes", other.count(0), 0);
        due("1: the other's providers", other.provide(1, 2), 1);
        other.define(0, 3, OPEN, NONE, 0);
        due("1: the other's masks", other.find(1, 3), 1);
    }

    // Promise 2

    private static void provideCountsAndRefuses() {
        LinkAudit x = new LinkAudit();
        due("2: provide(1, 0)", x.provide(1, 0), 1);
        due("2: provide(1, 4)", x.provide(1, 4), 2);
        due("2: again", x.provide(1, 4), LinkAudit.REFUSED);
        due("2: the first one again", x.provide(1, 0), LinkAudit.REFUSED);
        due("2: itself", x.provide(1, 1), LinkAudit.REFUSED);
        due("2: provide(1, 2)", x.provide(1, 2), 3);
        due("2: a fourth", x.provide(1, 3), LinkAudit.FULL);
        due("2: a provider already, though full", x.provide(1, 2), LinkAudit.REFUSED);
        due("2: itself, though full", x.provide(1, 1), LinkAudit.REFUSED);
        due("2: out of range, though full", x.provide(1, 5), LinkAudit.REFUSED);
        due("2: the other way round", x.provide(4, 1), 1);
        due("2: the host has none", x.provide(0, 1), LinkAudit.REFUSED);
        int[] outs = {-1, 5, OUT, FAR_BELOW};
        for (int out : outs) {
            due("2: loader " + out, x.provide(out, 1), LinkAudit.REFUSED);
            due("2: other " + out, x.provide(2, out), LinkAudit.REFUSED);
        }
        due("2: nothing was changed", x.provide(2, 1), 1);
    }

    // Promise 3

    private static void maskTurnsOnAndOff() {
        LinkAudit x = new LinkAudit();
        x.define(0, 11, OPEN, NONE, 0);
        x.define(4, 11, OPEN, NONE, 0);
        due("3: unmasked", x.find(4, 11), 1);
        due("3: mask", x.mask(4, 11, true), 0);
        due("3: masked", x.find(4, 11), 2);
        due("3: mask again", x.mask(4, 11, true), 0);
        due("3: another loader", x.find(3, 11), 1);
        due("3: mask another name", x.mask(4, 10, true), 0);
        due("3: unmask another name", x.mask(4, 10, false), 0);
        due("3: still masked", x.find(4, 11), 2);
        due("3: unmask", x.mask(4, 11, false), 0);
        due("3: unmasked again", x.find(4, 11), 1);
        due("3: unmask what is not masked", x.mask(4, 11, false), 0);
        due("3: still unmasked", x.find(4, 11), 1);
        due("3: the host", x.mask(0, 11, true), LinkAudit.REFUSED);
        int[] outs = {-1, 12, 32, OUT, FAR_BELOW};
        for (int out : outs) {
            due("3: loader " + out, x.mask(out, 1, true), LinkAudit.REFUSED);
            due("3: name " + out, x.mask(1, out, true), LinkAudit.REFUSED);
        }
        due("3: loader 5", x.mask(5, 1, true), LinkAudit.REFUSED);
    }

    // Promise 4

    private static void defineNumbersAndRefuses() {
        LinkAudit x = new LinkAudit();
        due("4: first", x.define(0, 0, 0, 0, 0), 1);
        due("4: same name of another loader", x.define(4, 0, 15 - LinkAudit.IS_FINAL, NONE, 4095), 2);
        due("4: same loader, another name", x.define(0, 11, 7, 11, 4095), 3);
        due("4: final and abstract", x.define(1, 1, LinkAudit.IS_FINAL | LinkAudit.IS_ABSTRACT, NONE, 0), 4);
        due("4: name taken", x.define(4, 0, OPEN, NONE, 0), LinkAudit.REFUSED);
        due("4: interface with super", x.define(1, 2, LinkAudit.IS_INTERFACE, 0, 0), LinkAudit.REFUSED);
        due("4: final interface", x.define(1, 2, 10, NONE, 0), LinkAudit.REFUSED);
        int[] outs = {-1, OUT, FAR_BELOW};
        for (int out : outs) {
            due("4: loader " + out, x.define(out, 2, 0, NONE, 0), LinkAudit.REFUSED);
            due("4: name " + out, x.define(1, out, 0, NONE, 0), LinkAudit.REFUSED);
            due("4: flags " + out, x.define(1, 2, out, NONE, 0), LinkAudit.REFUSED);
            due("4: super " + out, x.define(1, 2, 0, out, 0), LinkAudit.REFUSED);
            due("4: interfaces " + out, x.define(1, 2, 0, NONE, out), LinkAudit.REFUSED);
        }
        due("4: loader 5", x.define(5, 2, 0, NONE, 0), LinkAudit.REFUSED);
        due("4: name 12", x.define(1, 12, 0, NONE, 0), LinkAudit.REFUSED);
        due("4: flags 16", x.define(1, 2, 16, NONE, 0), LinkAudit.REFUSED);
        due("4: super 13", x.define(1, 2, 0, 13, 0), LinkAudit.REFUSED);
        due("4: interfaces 4096", x.define(1, 2, 0, NONE, 4096), LinkAudit.REFUSED);
        due("4: next", x.define(1, 2, 0, NONE, 0), 5);
        due("4: an interface counts as abstract", x.define(1, 3, LinkAudit.IS_INTERFACE, NONE, 0), 6);
        x.reference(5, LinkAudit.NEW * 4, 3, 0, 0);
        due("4: so no NEW of it", x.verdict(0), LinkAudit.INSTANCE);
    }

    private static void defineIsFullAtSixteen() {
        LinkAudit x = new LinkAudit();
        for (int i = 0; i < 16; i++) {
            due("4: class " + (i + 1), x.define(i / 12, i % 12, OPEN, NONE, 0), i + 1);
        }
        due("4: a seventeenth", x.define(1, 4, OPEN, NONE, 0), LinkAudit.FULL);
        due("4: name taken, though full", x.define(1, 3, OPEN, NONE, 0), LinkAudit.REFUSED);
        due("4: final interface, though full", x.define(1, 4, 10, NONE, 0), LinkAudit.REFUSED);
        due("4: out of range, though full", x.define(1, 4, 16, NONE, 0), LinkAudit.REFUSED);
        due("4: the sixteenth loads", x.load(16), 16);
        due("4: nothing was changed", x.count(0), 16);
    }

    // Promise 5

    private static void fieldNumbersAndRefuses() {
        LinkAudit x = new LinkAudit();
        due("5: no class yet", x.field(1, 0, 0, 0), LinkAudit.REFUSED);
        x.define(0, 0, OPEN, NONE, 0);
        x.define(0, 1, OPEN_INTERFACE, NONE, 0);
        due("5: first", x.field(1, 0, 0, 0), 1);
        due("5: like, other flags", x.field(1, 0, 0, 7), LinkAudit.REFUSED);
        due("5: another type", x.field(1, 0, NUMBER, 0), 2);
        due("5: another name", x.field(1, 3, 0, 7), 3);
        due("5: another class", x.field(2, 0, 0, LinkAudit.PACKAGE), 4);
        due("5: a method is not like a field", x.method(1, 0, 0, NUMBER, 0), 5);
        due("5: nor a field like a method", x.field(1, 1, 0, 0), 6);
        int[] outs = {-1, OUT, FAR_BELOW};
        for (int out : outs) {
            due("5: owner " + out, x.field(out, 2, 0, 0), LinkAudit.REFUSED);
            due("5: name " + out, x.field(1, out, 0, 0), LinkAudit.REFUSED);
            due("5: type " + out, x.field(1, 2, out, 0), LinkAudit.REFUSED);
            due("5: flags " + out, x.field(1, 2, 0, out), LinkAudit.REFUSED);
        }
        due("5: owner 0", x.field(0, 2, 0, 0), LinkAudit.REFUSED);
        due("5: owner 3", x.field(3, 2, 0, 0), LinkAudit.REFUSED);
        due("5: name 4", x.field(1, 4, 0, 0), LinkAudit.REFUSED);
        due("5: type 13", x.field(1, 2, 13, 0), LinkAudit.REFUSED);
        due("5: abstract", x.field(1, 2, 0, LinkAudit.ABSTRACT), LinkAudit.REFUSED);
        due("5: count", x.count(1), 6);
    }

    // Promise 6

    private static void methodNumbersAndRefuses() {
        LinkAudit x = new LinkAudit();
        due("6: no class yet", x.method(1, 0, 0, 0, 0), LinkAudit.REFUSED);
        x.define(0, 0, OPEN, NONE, 0);
        x.define(0, 1, OPEN_INTERFACE, NONE, 0);
        due("6: first", x.method(1, 0, 1, 2, 0), 1);
        due("6: like, other flags", x.method(1, 0, 1, 2, 8), LinkAudit.REFUSED);
        due("6: types the other way round", x.method(1, 0, 2, 1, 0), 2);
        due("6: another argument", x.method(1, 0, 0, 2, 1), 3);
        due("6: another answer", x.method(1, 0, 1, 3, 2), 4);
        due("6: another name", x.method(1, 1, 1, 2, 7), 5);
        due("6: another class", x.method(2, 0, 1, 2, 0), 6);
        due("6: abstract in a class that is not", x.method(1, 2, 0, 0, 8), 7);
        due("6: abstract and PROTECTED", x.method(1, 2, 0, 1, 9), 8);
        due("6: abstract and PACKAGE", x.method(1, 2, 0, 2, 10), 9);
        due("6: abstract and PRIVATE", x.method(1, 2, 0, 3, 11), LinkAudit.REFUSED);
        for (int access = 0; access < 4; access++) {
            due("6: abstract and static", x.method(1, 2, 0, 3, 12 + access), LinkAudit.REFUSED);
            due("6: abstract and static, of an interface", x.method(2, 2, 0, 3, 12 + access), LinkAudit.REFUSED);
        }
        int[] refused = {LinkAudit.PROTECTED, LinkAudit.PACKAGE, 5, 6, 9, 10, 11};
        for (int flags : refused) {
            due("6: of an interface, flags " + flags, x.method(2, 2, 0, 3, flags), LinkAudit.REFUSED);
        }
        due("6: PRIVATE, of an interface", x.method(2, 2, 0, 0, 3), 10);
        due("6: static, of an interface", x.method(2, 2, 0, 1, 4), 11);
        due("6: PRIVATE and static, of an interface", x.method(2, 2, 0, 2, 7), 12);
        due("6: abstract, of an interface", x.method(2, 2, 0, 3, 8), 13);
        int[] outs = {-1, OUT, FAR_BELOW};
        for (int out : outs) {
            due("6: owner " + out, x.method(out, 3, 0, 0, 0), LinkAudit.REFUSED);
            due("6: name " + out, x.method(1, out, 0, 0, 0), LinkAudit.REFUSED);
            due("6: argument " + out, x.method(1, 3, out, 0, 0), LinkAudit.REFUSED);
            due("6: answer " + out, x.method(1, 3, 0, out, 0), LinkAudit.REFUSED);
            due("6: flags " + out, x.method(1, 3, 0, 0, out), LinkAudit.REFUSED);
        }
        due("6: owner 3", x.method(3, 3, 0, 0, 0), LinkAudit.REFUSED);
        due("6: name 4", x.method(1, 4, 0, 0, 0), LinkAudit.REFUSED);
        due("6: argument 13", x.method(1, 3, 13, 0, 0), LinkAudit.REFUSED);
        due("6: answer 13", x.method(1, 3, 0, 13, 0), LinkAudit.REFUSED);
        due("6: flags 16", x.method(1, 3, 0, 0, 16), LinkAudit.REFUSED);
        due("6: count", x.count(1), 13);
    }

    private static void membersAreFullAtForty() {
        LinkAudit x = new LinkAudit();
        x.define(0, 0, OPEN, NONE, 0);
        x.define(0, 1, OPEN_INTERFACE, NONE, 0);
        for (int i = 0; i < 20; i++) {
            due("5: one of forty", x.field(1, i / 12, i % 12, 0), 2 * i + 1);
            due("6: one of forty", x.method(1, 0, i / 12, i % 12, 0), 2 * i + 2);
        }
        due("5: one more", x.field(1, 3, 0, 0), LinkAudit.FULL);
        due("6: one more", x.method(1, 3, 0, 0, 0), LinkAudit.FULL);
        due("5: like, though full", x.field(1, 0, 0, 0), LinkAudit.REFUSED);
        due("6: like, though full", x.method(1, 0, 0, 0, 0), LinkAudit.REFUSED);
        due("6: not as said, though full", x.method(2, 0, 0, 0, 1), LinkAudit.REFUSED);
        due("5: out of range, though full", x.field(1, 4, 0, 0), LinkAudit.REFUSED);
        x.reference(1, LinkAudit.CALL * 4, 0, 1, 7);
        due("6: the fortieth is found", x.verdict(0), 40);
        due("11: the fortieth is selected", x.select(1, 40), 40);
        due("5: count", x.count(1), 40);
    }

    // Promise 7

    private static void referenceNumbersAndRefuses() {
        LinkAudit x = new LinkAudit();
        due("7: no class yet", x.reference(1, 0, 0, 0, 0), LinkAudit.REFUSED);
        x.define(0, 0, OPEN, NONE, 0);
        int[] outs = {-1, OUT, FAR_BELOW};
        for (int out : outs) {
            due("7: from " + out, x.reference(out, 0, 0, 0, 0), LinkAudit.REFUSED);
            due("7: kind " + out, x.reference(1, out, 0, 0, 0), LinkAudit.REFUSED);
            due("7: class name " + out, x.reference(1, 0, out, 0, 0), LinkAudit.REFUSED);
            due("7: first " + out, x.reference(1, 0, 0, out, 0), LinkAudit.REFUSED);
            due("7: second " + out, x.reference(1, 0, 0, 0, out), LinkAudit.REFUSED);
        }
        due("7: from 2", x.reference(2, 0, 0, 0, 0), LinkAudit.REFUSED);
        due("7: kind 24", x.reference(1, 24, 0, 0, 0), LinkAudit.REFUSED);
        due("7: class name 12", x.reference(1, 0, 12, 0, 0), LinkAudit.REFUSED);
        due("7: first 13", x.reference(1, 0, 0, 13, 0), LinkAudit.REFUSED);
        due("7: second 13, though NEW", x.reference(1, 0, 0, 0, 13), LinkAudit.REFUSED);
        due("7: second 13, though a field", x.reference(1, 4, 0, 0, 13), LinkAudit.REFUSED);
        for (int i = 0; i < 12; i++) {
            due("7: reference " + i, x.reference(1, i * 2 + 1, 11, 12, 12), i);
        }
        due("7: a thirteenth", x.reference(1, 0, 0, 0, 0), LinkAudit.FULL);
        due("7: out of range, though full", x.reference(1, 24, 0, 0, 0), LinkAudit.REFUSED);
        due("7: count", x.count(2), 12);
        due("10: the last one", x.verdict(11), LinkAudit.NO_CLASS);
        due("10: none behind it", x.verdict(12), LinkAudit.REFUSED);
    }

    // Promise 8

    private static void findAsksHostThenProvidersThenItself() {
        LinkAudit x = new LinkAudit();
        x.define(1, 5, 0, NONE, 0);
        due("8: its own", x.find(1, 5), 1);
        due("8: not the host", x.find(0, 5), LinkAudit.NO_CLASS);
        due("8: not others", x.find(2, 5), LinkAudit.NO_CLASS);
        x.provide(1, 3);
        x.provide(1, 2);
        x.define(2, 5, 0, NONE, 0);
        due("8: a provider's before its own", x.find(1, 5), 2);
        x.define(3, 5, 0, NONE, 0);
        due("8: the first provider's", x.find(1, 5), 3);
        x.define(0, 5, 0, NONE, 0);
        due("8: the host's before all", x.find(1, 5), 4);
        due("8: the host's for the host", x.find(0, 5), 4);
        x.mask(1, 5, true);
        due("8: masked: its own", x.find(1, 5), 1);
        x.define(4, 6, 0, NONE, 0);
        x.provide(3, 4);
        due("8: a provider's", x.find(3, 6), 5);
        due("8: not the providers' of a provider", x.find(1, 6), LinkAudit.NO_CLASS);
        x.mask(3, 6, true);
        due("8: masked, and none of its own", x.find(3, 6), LinkAudit.NO_CLASS);
        x.provide(2, 1);
        x.define(1, 7, 0, NONE, 0);
        x.mask(1, 7, true);
        due("8: what a provider masks it still has", x.find(2, 7), 6);
        int[] outs = {-1, 12, OUT, FAR_BELOW};
        for (int out : outs) {
            due("8: loader " + out, x.find(out, 5), LinkAudit.REFUSED);
            due("8: name " + out, x.find(1, out), LinkAudit.REFUSED);
        }
        due("8: loader 5", x.find(5, 5), LinkAudit.REFUSED);
    }

    // Promise 9

    private static void loadGivesNumberOrFirstCode() {
        LinkAudit x = new LinkAudit();
        x.define(0, 0, OPEN, NONE, 0);
        x.define(0, 1, OPEN_INTERFACE, NONE, 0);
        x.define(0, 4, 0, NONE, 0);
        x.define(0, 5, LinkAudit.IS_INTERFACE, NONE, 0);
        x.define(0, 6, LinkAudit.IS_FINAL, NONE, 0);
        due("9: alone", x.load(1), 1);
        x.define(1, 0, OPEN, 0, 1 << 1);
        due("9: the host's super and interface", x.load(6), 6);
        x.define(1, 8, OPEN, 11, 0);
        due("9: no super", x.load(7), LinkAudit.NO_CLASS);
        x.define(1, 9, OPEN, 8, 0);
        due("9: the super's code", x.load(8), LinkAudit.NO_CLASS);
        x.define(1, 10, OPEN, 1, 0);
        due("9: an interface as super", x.load(9), LinkAudit.INCOMPATIBLE);
        x.define(1, 4, OPEN, 6, 0);
        due("9: a final super, before that it may not be used", x.load(10), LinkAudit.INCOMPATIBLE);
        x.define(1, 5, OPEN, 4, 0);
        due("9: a super that may not be used", x.load(11), LinkAudit.ILLEGAL);
        x.define(1, 6, OPEN, NONE, 1 << 5);
        due("9: an interface that may not be used", x.load(12), LinkAudit.ILLEGAL);
        x.define(1, 7, OPEN, NONE, 1 << 4);
        due("9: no interface, before that it may not be used", x.load(13), LinkAudit.INCOMPATIBLE);
        x.define(0, 7, OPEN, 4, 1 << 5);
        due("9: neighbours may be used", x.load(14), 14);
        x.define(1, 2, OPEN, 4, 1 << 11);
        due("9: the super before the interfaces", x.load(15), LinkAudit.ILLEGAL);
        x.define(1, 3, OPEN, NONE, 1 << 5 | 1 << 11 | 1 << 0);
        due("9: interfaces by rising name", x.load(16), LinkAudit.INCOMPATIBLE);
        int[] outs = {-1, 0, 17, OUT, FAR_BELOW};
        for (int out : outs) {
            due("9: number " + out, x.load(out), LinkAudit.REFUSED);
        }
        x.mask(1, 0, true);
        due("9: its own name as super, masked: itself", x.load(6), LinkAudit.CIRCULAR);
        x.mask(1, 0, false);
        due("9: and not masked", x.load(6), 6);
    }

    private static void loadFollowsProviders() {
        LinkAudit x = new LinkAudit();
        x.define(1, 0, OPEN, 4, 0);
        x.define(2, 4, OPEN | LinkAudit.IS_FINAL, NONE, 0);
        x.define(3, 4, OPEN, NONE, 0);
        due("9: no provider", x.load(1), LinkAudit.NO_CLASS);
        x.provide(1, 2);
        due("9: a provider with a final class", x.load(1), LinkAudit.INCOMPATIBLE);
        x.provide(1, 3);
        due("9: the first one counts", x.load(1), LinkAudit.INCOMPATIBLE);
        x.define(0, 4, OPEN, NONE, 0);
        due("9: the host's", x.load(1), 1);
        x.method(4, 0, NUMBER, NUMBER, 0);
        due("11: that is its super", x.select(1, 1), 1);
    }

    private static void loadTellsCircles() {
        LinkAudit x = new LinkAudit();
        x.define(1, 0, OPEN, 1, 0);
        x.define(1, 1, OPEN, 2, 0);
        due("9: an open end", x.load(1), LinkAudit.NO_CLASS);
        x.define(1, 2, OPEN | LinkAudit.IS_FINAL, 0, 0);
        for (int number = 1; number <= 3; number++) {
            due("9: a circle", x.load(number), LinkAudit.CIRCULAR);
        }
        x.define(1, 3, OPEN, 1, 0);
        due("9: above it a circle", x.load(4), LinkAudit.CIRCULAR);
        x.define(1, 4, LinkAudit.IS_INTERFACE, NONE, 1 << 4);
        due("9: its own interface", x.load(5), LinkAudit.CIRCULAR);
        x.define(1, 5, OPEN_INTERFACE, NONE, 0);
        x.define(1, 6, OPEN_INTERFACE, NONE, 1 << 5);
        x.define(1, 7, OPEN_INTERFACE, NONE, 1 << 5 | 1 << 6);
        due("9: one interface by two ways is no circle", x.load(8), 8);
        x.define(1, 8, OPEN, NONE, 1 << 9 | 1 << 11);
        x.define(1, 9, OPEN_INTERFACE, NONE, 1 << 8 | 1 << 10);
        due("9: the circle is met first", x.load(9), LinkAudit.CIRCULAR);
        x.define(1, 10, OPEN, NONE, 1 << 0);
        due("9: a code from a circle below", x.load(11), LinkAudit.CIRCULAR);
        x.define(0, 1, OPEN, NONE, 0);
        due("9: the host's class breaks the circle", x.load(1), 1);
        due("9: and there final is met", x.load(2), LinkAudit.INCOMPATIBLE);
        due("9: for the final one all is well", x.load(3), 3);
    }

    private static void loadGoesToTheTop() {
        LinkAudit x = new LinkAudit();
        for (int i = 0; i < 12; i++) {
            x.define(1, i, OPEN, i == 0 ? NONE : i - 1, 0);
        }
        x.define(2, 8, OPEN, 11, 0);
        for (int i = 9; i < 12; i++) {
            x.define(2, i, OPEN, i - 1, 0);
        }
        x.provide(2, 1);
        for (int name = 8; name < 11; name++) {
            x.mask(2, name, true);
        }
        due("9: sixteen high", x.load(16), 16);
        x.method(1, 0, NUMBER, NUMBER, 8);
        x.field(1, 0, NUMBER, 0);
        due("11: abstract at the top", x.select(16, 1), LinkAudit.NO_CODE);
        due("13: for all fifteen below", x.gaps(), 15);
        x.reference(16, LinkAudit.FIELD * 4, 10, NUMBER, 0);
        due("10: a field of the top", x.verdict(0), 2);
        x.method(16, 0, NUMBER, NUMBER, 0);
        due("11: code at the bottom", x.select(16, 1), 3);
        due("12: from bottom to top", x.overrides(3, 1), true);
    }

    // Promise 10

    private static void verdictOfNew() {
        LinkAudit x = new LinkAudit();
        x.define(0, 0, OPEN, NONE, 0);
        x.define(0, 1, OPEN | LinkAudit.IS_ABSTRACT, NONE, 0);
        x.define(0, 2, OPEN_INTERFACE, NONE, 0);
        x.define(0, 3, LinkAudit.IS_FINAL, NONE, 0);
        x.reference(1, 0, 0, 0, 0);
        due("10: NEW of itself", x.verdict(0), 1);
        x.reference(1, 1, 1, 5, 7);
        due("10: NEW of an abstract class, any name and types", x.verdict(1), LinkAudit.INSTANCE);
        x.reference(1, 3, 2, 12, 12);
        due("10: NEW of an interface", x.verdict(2), LinkAudit.INSTANCE);
        x.reference(3, 2, 3, 12, 0);
        due("10: NEW of a final neighbour, by an interface", x.verdict(3), 4);
        int[] outs = {-1, 4, OUT, FAR_BELOW};
        for (int out : outs) {
            due("10: reference " + out, x.verdict(out), LinkAudit.REFUSED);
        }
    }

    private static void verdictOfResolving() {
        LinkAudit x = new LinkAudit();
        x.define(1, 0, OPEN, 9, 0);
        x.define(1, 1, OPEN, NONE, 0);
        x.define(1, 4, LinkAudit.IS_ABSTRACT, NONE, 0);
        x.reference(1, 0, 1, 0, 0);
        due("10: of a class that is not loadable", x.verdict(0), LinkAudit.UNLOADED);
        x.reference(2, 0, 9, 0, 0);
        due("10: nothing found", x.verdict(1), LinkAudit.NO_CLASS);
        x.reference(2, 0, 0, 0, 0);
        due("10: the code of the class found", x.verdict(2), LinkAudit.NO_CLASS);
        x.reference(2, 0, 4, 0, 0);
        due("10: it may not be used, before that it is abstract", x.verdict(3), LinkAudit.ILLEGAL);
        x.reference(2, LinkAudit.CALL_INTERFACE * 4, 4, 0, 0);
        due("10: it may not be used, before that it is no interface", x.verdict(4), LinkAudit.ILLEGAL);
        x.define(1, 9, OPEN, 0, 0);
        due("10: a circle now", x.verdict(2), LinkAudit.CIRCULAR);
        due("10: UNLOADED for any code", x.verdict(0), LinkAudit.UNLOADED);
        x.define(0, 9, OPEN, NONE, 0);
        due("10: loadable now", x.verdict(2), 1);
        due("10: and so is what it refers to", x.verdict(0), 2);
    }

    private static void verdictOfFields() {
        LinkAudit x = new LinkAudit();
        x.define(0, 0, OPEN, NONE, 0);
        x.define(0, 1, OPEN_INTERFACE, NONE, 0);
        x.field(1, 0, 5, LinkAudit.PUBLIC);
        x.field(1, 1, 5, LinkAudit.PUBLIC | LinkAudit.STATIC);
        x.field(2, 2, 5, LinkAudit.PROTECTED);
        x.method(1, 3, 5, NUMBER, LinkAudit.PUBLIC);
        int field = LinkAudit.FIELD * 4;
        int fieldStatic = LinkAudit.FIELD_STATIC * 4;
        x.reference(2, field, 0, 5, 0);
        due("10: a field", x.verdict(0), 1);
        x.reference(2, field, 0, 5, 12);
        due("10: a field, whatever the second type", x.verdict(1), 1);
        x.reference(2, field, 0, 12, 5);
        due("10: a field of another type", x.verdict(2), LinkAudit.NO_MEMBER);
        x.reference(2, field + 1, 0, 5, 0);
        due("10: static and should not be", x.verdict(3), LinkAudit.INCOMPATIBLE);
        x.reference(2, fieldStatic + 1, 0, 5, 0);
        due("10: a static field", x.verdict(4), 2);
        x.reference(2, fieldStatic, 0, 5, 0);
        due("10: not static and should be", x.verdict(5), LinkAudit.INCOMPATIBLE);
        x.reference(2, field + 3, 0, 5, 12);
        due("10: a method is no field", x.verdict(6), LinkAudit.NO_MEMBER);
        x.reference(2, LinkAudit.CALL * 4, 0, 5, 12);
        due("10: a field is no method", x.verdict(7), LinkAudit.NO_MEMBER);
        x.reference(1, field + 2, 1, 5, 0);
        due("10: a field of an interface", x.verdict(8), 3);
    }

    private static void verdictOfFieldsByOrder() {
        LinkAudit x = new LinkAudit();
        x.define(0, 4, OPEN_INTERFACE, NONE, 0);
        x.define(0, 3, OPEN_INTERFACE, NONE, 0);
        x.define(0, 2, OPEN_INTERFACE, NONE, 1 << 4);
        x.define(0, 1, OPEN, NONE, 1 << 3);
        x.define(0, 0, OPEN, 1, 1 << 2 | 1 << 3);
        x.reference(5, LinkAudit.FIELD * 4, 0, NUMBER, 0);
        due("10: none", x.verdict(0), LinkAudit.NO_MEMBER);
        x.field(4, 0, NUMBER, 0);
        due("10: the super's", x.verdict(0), 1);
        x.field(2, 0, NUMBER, 0);
        due("10: an interface's before it", x.verdict(0), 2);
        x.field(1, 0, NUMBER, 0);
        due("10: an interface's interface's before the next", x.verdict(0), 3);
        x.field(3, 0, NUMBER, 0);
        due("10: the first interface's before that", x.verdict(0), 4);
        x.field(5, 0, NUMBER, LinkAudit.STATIC);
        due("10: its own before all, as it is", x.verdict(0), LinkAudit.INCOMPATIBLE);
        x.reference(5, LinkAudit.FIELD * 4, 1, NUMBER, 0);
        due("10: for the super its own", x.verdict(1), 1);
    }

    /** Verdict of a reference of the class 2 to a field of the class 1, in an object where the two stand as told. */
    private static int reached(int otherLoader, int otherName, boolean subclass, int access) {
        LinkAudit x = new LinkAudit();
        x.define(1, 0, OPEN, NONE, 0);
        x.define(otherLoader, otherName, OPEN, subclass ? 0 : NONE, 0);
        x.provide(2, 1);
        x.field(1, 0, NUMBER, access);
        x.reference(2, LinkAudit.FIELD * 4, 0, NUMBER, 0);
        return x.verdict(0);
    }

    private static void verdictOfReach() {
        int no = LinkAudit.ILLEGAL;
        int[] strangers = {1, no, no, no};
        int[] subclasses = {1, 1, no, no};
        int[] neighbours = {1, 1, 1, no};
        for (int access = 0; access < 4; access++) {
            due("10: reach, another package", reached(1, 4, false, access), strangers[access]);
            due("10: reach, another loader", reached(2, 1, false, access), strangers[access]);
            due("10: reach, a subclass elsewhere", reached(2, 1, true, access), subclasses[access]);
            due("10: reach, a neighbour", reached(1, 3, false, access), neighbours[access]);
            due("10: reach, a neighbour and subclass", reached(1, 3, true, access), neighbours[access]);
        }
        LinkAudit x = new LinkAudit();
        x.define(1, 0, OPEN, NONE, 0);
        x.define(1, 4, OPEN, 0, 0);
        x.field(1, 0, NUMBER, LinkAudit.PRIVATE);
        x.field(2, 1, NUMBER, LinkAudit.PROTECTED);
        x.field(1, 2, NUMBER, LinkAudit.PRIVATE | LinkAudit.STATIC);
        x.reference(1, LinkAudit.FIELD * 4, 4, NUMBER, 0);
        due("10: its own PRIVATE one through a subclass", x.verdict(0), 1);
        x.reference(1, LinkAudit.FIELD * 4 + 1, 4, NUMBER, 0);
        due("10: PROTECTED is not for superclasses", x.verdict(1), LinkAudit.ILLEGAL);
        x.reference(2, LinkAudit.FIELD * 4 + 2, 0, NUMBER, 0);
        due("10: ILLEGAL before INCOMPATIBLE", x.verdict(2), LinkAudit.ILLEGAL);
        x.define(1, 8, OPEN_INTERFACE, NONE, 0);
        x.define(1, 5, OPEN, NONE, 1 << 8);
        x.field(3, 0, NUMBER, LinkAudit.PROTECTED);
        x.reference(4, LinkAudit.FIELD * 4, 8, NUMBER, 0);
        due("10: a class is no subclass of its interfaces", x.verdict(3), LinkAudit.ILLEGAL);
    }

    private static void verdictOfMethods() {
        LinkAudit x = new LinkAudit();
        x.define(0, 0, OPEN, NONE, 0);
        x.define(0, 1, OPEN, 0, 1 << 2);
        x.define(0, 2, OPEN_INTERFACE, NONE, 0);
        x.method(1, 0, 3, 4, LinkAudit.PUBLIC);
        x.method(1, 1, 3, 4, LinkAudit.STATIC);
        x.method(3, 0, 3, 4, LinkAudit.PUBLIC);
        x.method(3, 2, 3, 4, LinkAudit.STATIC);
        x.method(1, 3, 3, 4, LinkAudit.PRIVATE);
        x.method(3, 3, 3, 4, LinkAudit.PUBLIC);
        int call = LinkAudit.CALL * 4;
        int callStatic = LinkAudit.CALL_STATIC * 4;
        int callInterface = LinkAudit.CALL_INTERFACE * 4;
        x.reference(2, call, 1, 3, 4);
        due("10: the super's before the interface's", x.verdict(0), 1);
        x.reference(2, call, 1, 4, 3);
        due("10: types the other way round", x.verdict(1), LinkAudit.NO_MEMBER);
        x.reference(2, call + 1, 1, 3, 4);
        due("10: CALL of a static one", x.verdict(2), LinkAudit.INCOMPATIBLE);
        x.reference(2, callStatic + 1, 1, 3, 4);
        due("10: CALL_STATIC", x.verdict(3), 2);
        x.reference(2, callStatic, 1, 3, 4);
        due("10: CALL_STATIC of one that is not", x.verdict(4), LinkAudit.INCOMPATIBLE);
        x.reference(2, callStatic + 2, 2, 3, 4);
        due("10: CALL_STATIC of an interface's", x.verdict(5), 4);
        x.reference(2, callStatic + 2, 1, 3, 4);
        due("10: static ones of interfaces are not inherited", x.verdict(6), LinkAudit.NO_MEMBER);
        x.reference(2, call, 2, 3, 4);
        due("10: CALL of an interface", x.verdict(7), LinkAudit.INCOMPATIBLE);
        x.reference(2, callInterface, 1, 3, 4);
        due("10: CALL_INTERFACE of none", x.verdict(8), LinkAudit.INCOMPATIBLE);
        x.reference(2, callInterface + 1, 1, 0, 0);
        due("10: INCOMPATIBLE before NO_MEMBER", x.verdict(9), LinkAudit.INCOMPATIBLE);
        x.reference(2, callInterface, 2, 3, 4);
        due("10: CALL_INTERFACE", x.verdict(10), 3);
        x.reference(2, call + 3, 1, 3, 4);
        due("10: a PRIVATE one of the super is found first", x.verdict(11), LinkAudit.ILLEGAL);
    }

    private static void verdictOfInterfaceMethods() {
        LinkAudit x = new LinkAudit();
        x.define(0, 0, OPEN_INTERFACE, NONE, 0);
        x.define(0, 1, OPEN_INTERFACE, NONE, 1 << 0);
        x.define(0, 2, OPEN_INTERFACE, NONE, 1 << 0);
        x.define(0, 3, OPEN_INTERFACE, NONE, 1 << 1 | 1 << 2);
        x.define(0, 4, OPEN, NONE, 1 << 3);
        x.define(0, 5, OPEN, 4, 0);
        x.reference(6, LinkAudit.CALL * 4, 5, NUMBER, NUMBER);
        x.reference(6, LinkAudit.CALL_INTERFACE * 4, 3, NUMBER, NUMBER);
        due("10: none", x.verdict(0), LinkAudit.NO_MEMBER);
        x.method(4, 1, NUMBER, NUMBER, 0);
        x.method(2, 0, NUMBER, NUMBER, 8);
        due("10: an abstract one alone", x.verdict(0), 2);
        due("10: for the interface too", x.verdict(1), 2);
        x.method(1, 0, NUMBER, NUMBER, 0);
        due("10: one with code that is not most specific: the least number", x.verdict(0), 2);
        x.method(3, 0, NUMBER, NUMBER, 0);
        due("10: just one most specific with code", x.verdict(0), 4);
        due("10: for the interface too", x.verdict(1), 4);
        x.method(4, 0, NUMBER, NUMBER, 3);
        due("10: a PRIVATE one of a superinterface does not count", x.verdict(0), 4);
        due("10: but as the interface's own it is found", x.verdict(1), LinkAudit.ILLEGAL);
        LinkAudit y = new LinkAudit();
        y.define(0, 0, OPEN_INTERFACE, NONE, 0);
        y.define(0, 1, OPEN_INTERFACE, NONE, 1 << 0);
        y.define(0, 2, OPEN_INTERFACE, NONE, 1 << 0);
        y.define(0, 3, OPEN, NONE, 1 << 1 | 1 << 2);
        y.method(1, 0, NUMBER, NUMBER, 0);
        y.method(3, 0, NUMBER, NUMBER, 0);
        y.method(2, 0, NUMBER, NUMBER, 0);
        y.reference(4, LinkAudit.CALL * 4, 3, NUMBER, NUMBER);
        due("10: two most specific with code: the least number of all", y.verdict(0), 1);
        LinkAudit z = new LinkAudit();
        z.define(0, 0, OPEN, NONE, 1 << 1);
        z.define(0, 1, OPEN_INTERFACE, NONE, 0);
        z.method(2, 0, NUMBER, NUMBER, 0);
        z.reference(1, LinkAudit.CALL * 4, 0, NUMBER, NUMBER);
        due("10: of the interface that was defined last", z.verdict(0), 1);
        due("11: of the interface that was defined last", z.select(1, 1), 1);
    }

    // Promise 11

    private static void selectInClasses() {
        LinkAudit x = new LinkAudit();
        x.define(0, 0, OPEN, NONE, 0);
        x.define(0, 1, OPEN, 0, 0);
        x.define(0, 2, OPEN, 1, 0);
        x.method(1, 0, NUMBER, NUMBER, LinkAudit.PUBLIC);
        due("11: its own", x.select(1, 1), 1);
        due("11: inherited", x.select(3, 1), 1);
        x.method(2, 0, NUMBER, NUMBER, LinkAudit.PROTECTED);
        due("11: overridden, less open", x.select(3, 1), 2);
        due("11: for the super itself", x.select(1, 1), 1);
        x.method(3, 0, NUMBER, NUMBER, LinkAudit.PRIVATE);
        due("11: a PRIVATE one covers nothing", x.select(3, 1), 2);
        due("11: a PRIVATE one is itself", x.select(3, 3), 3);
        x.method(2, 1, NUMBER, NUMBER, LinkAudit.PRIVATE);
        x.method(3, 1, NUMBER, NUMBER, LinkAudit.PUBLIC);
        due("11: a PRIVATE one of the super is not covered", x.select(3, 4), 4);
        x.method(1, 2, NUMBER, NUMBER, LinkAudit.PUBLIC);
        x.method(2, 2, NUMBER, NUMBER, LinkAudit.STATIC);
        due("11: a static one covers nothing", x.select(3, 6), 6);
        x.method(3, 2, NUMBER, NUMBER, LinkAudit.ABSTRACT);
        due("11: an abstract one covers", x.select(3, 6), LinkAudit.NO_CODE);
        x.method(2, 2, NUMBER, 0, LinkAudit.PUBLIC);
        due("11: another answer is not like it", x.select(2, 6), 6);
    }

    private static void selectOfPackageMethods() {
        LinkAudit x = new LinkAudit();
        x.define(0, 0, OPEN, NONE, 0);
        x.define(0, 4, OPEN, 0, 0);
        x.define(0, 1, OPEN, 4, 0);
        x.method(1, 0, NUMBER, NUMBER, LinkAudit.PACKAGE);
        x.method(2, 0, NUMBER, NUMBER, LinkAudit.PUBLIC);
        due("11: PACKAGE, not covered from another package", x.select(2, 1), 1);
        due("11: so neither below", x.select(3, 1), 1);
        x.method(3, 0, NUMBER, NUMBER, LinkAudit.PUBLIC);
        due("11: covered again by a neighbour", x.select(3, 1), 3);
        due("11: who covers the other one too", x.select(3, 2), 3);
    }

    private static void selectInInterfaces() {
        LinkAudit x = new LinkAudit();
        x.define(0, 0, OPEN_INTERFACE, NONE, 0);
        x.define(0, 1, OPEN_INTERFACE, NONE, 1 << 0);
        x.define(0, 2, OPEN_INTERFACE, NONE, 0);
        x.define(0, 3, OPEN | LinkAudit.IS_ABSTRACT, NONE, 0);
        x.define(0, 4, OPEN, 3, 1 << 1 | 1 << 2);
        x.method(1, 0, NUMBER, NUMBER, 8);
        due("11: abstract alone", x.select(5, 1), LinkAudit.NO_CODE);
        x.method(3, 0, NUMBER, NUMBER, 0);
        due("11: just one with code", x.select(5, 1), 2);
        due("11: not of its superclasses or superinterfaces", x.select(4, 1), LinkAudit.REFUSED);
        x.method(2, 0, NUMBER, NUMBER, 0);
        due("11: two with code", x.select(5, 1), LinkAudit.INCOMPATIBLE);
        x.method(4, 0, NUMBER, NUMBER, LinkAudit.PROTECTED);
        due("11: a superclass's, though it has not the interface; not PUBLIC", x.select(5, 1), LinkAudit.ILLEGAL);
        due("11: the same asked of a class", x.select(5, 4), 4);
        x.method(5, 0, NUMBER, NUMBER, LinkAudit.PUBLIC);
        due("11: its own", x.select(5, 1), 5);
        x.method(3, 1, NUMBER, NUMBER, LinkAudit.PRIVATE);
        due("11: a PRIVATE one of an interface", x.select(5, 6), 6);
        x.method(1, 2, NUMBER, NUMBER, 0);
        x.method(2, 2, NUMBER, NUMBER, 8);
        due("11: code that is not most specific", x.select(5, 7), LinkAudit.NO_CODE);
        x.method(4, 2, NUMBER, NUMBER, 9);
        due("11: NO_CODE before ILLEGAL", x.select(5, 7), LinkAudit.NO_CODE);
    }

    private static void selectRefuses() {
        LinkAudit x = new LinkAudit();
        x.define(0, 0, OPEN, NONE, 0);
        x.define(0, 1, OPEN_INTERFACE, NONE, 0);
        x.define(0, 2, OPEN, 9, 0);
        x.define(0, 3, OPEN, 0, 0);
        x.field(1, 0, NUMBER, 0);
        x.method(1, 0, NUMBER, NUMBER, LinkAudit.STATIC);
        x.method(2, 0, NUMBER, NUMBER, 0);
        x.method(3, 0, NUMBER, NUMBER, LinkAudit.PRIVATE);
        x.method(4, 0, NUMBER, NUMBER, LinkAudit.PRIVATE);
        due("11: a field", x.select(1, 1), LinkAudit.REFUSED);
        due("11: static", x.select(1, 2), LinkAudit.REFUSED);
        due("11: for an interface", x.select(2, 3), LinkAudit.REFUSED);
        due("11: not loadable", x.select(3, 4), LinkAudit.REFUSED);
        due("11: a subclass's, though PRIVATE", x.select(1, 5), LinkAudit.REFUSED);
        int[] outs = {-1, 0, 6, OUT, FAR_BELOW};
        for (int out : outs) {
            due("11: class " + out, x.select(out, 5), LinkAudit.REFUSED);
            due("11: member " + out, x.select(4, out), LinkAudit.REFUSED);
        }
    }

    // Promise 12

    /** Whether a method of a subclass overrides one of its super, of these flags. */
    private static boolean overridden(int loader, int name, int upper, int lower) {
        LinkAudit x = new LinkAudit();
        x.define(1, 0, OPEN, NONE, 0);
        x.define(loader, name, OPEN, 0, 0);
        x.provide(2, 1);
        x.method(1, 0, NUMBER, NUMBER, upper);
        x.method(2, 0, NUMBER, NUMBER, lower);
        due("12: never the other way round", x.overrides(1, 2), false);
        due("12: never itself", x.overrides(2, 2), false);
        return x.overrides(2, 1);
    }

    private static void overridesByAccess() {
        for (int lower = 0; lower < 16; lower++) {
            boolean virtual = (lower & LinkAudit.STATIC) == 0 && (lower & 3) != LinkAudit.PRIVATE;
            for (int upper = 0; upper < 4; upper++) {
                boolean open = upper == LinkAudit.PUBLIC || upper == LinkAudit.PROTECTED;
                boolean near = open || upper == LinkAudit.PACKAGE;
                due("12: neighbours " + lower + " " + upper, overridden(1, 1, upper, lower), virtual && near);
                due("12: another package " + lower + " " + upper, overridden(1, 4, upper, lower), virtual && open);
                due("12: another loader " + lower + " " + upper, overridden(2, 1, upper, lower), virtual && open);
            }
            due("12: static above", overridden(1, 1, LinkAudit.STATIC, lower), false);
            due("12: abstract above", overridden(1, 1, LinkAudit.ABSTRACT, lower), virtual);
        }
        LinkAudit x = new LinkAudit();
        x.define(0, 0, OPEN, NONE, 0);
        x.define(0, 1, OPEN, 0, 0);
        x.define(0, 2, OPEN, NONE, 0);
        x.method(1, 0, 1, 2, 0);
        x.method(2, 0, 2, 1, 0);
        x.method(3, 0, 1, 2, 0);
        x.field(1, 0, 1, 0);
        x.field(2, 0, 1, 0);
        x.method(2, 0, 1, NUMBER, 0);
        due("12: not like", x.overrides(2, 1), false);
        due("12: no super", x.overrides(3, 1), false);
        due("12: fields", x.overrides(5, 4), false);
        due("12: a method and a field", x.overrides(6, 4), false);
        int[] outs = {-1, 0, 7, OUT, FAR_BELOW};
        for (int out : outs) {
            due("12: method " + out, x.overrides(out, 1), false);
            due("12: other " + out, x.overrides(2, out), false);
        }
        x.method(2, 0, 1, 2, 0);
        due("12: like", x.overrides(7, 1), true);
        x.define(0, 3, OPEN, 0, 1 << 11);
        x.method(4, 0, 1, 2, 0);
        due("12: not loadable", x.overrides(8, 1), false);
        x.define(0, 11, OPEN_INTERFACE, NONE, 0);
        due("12: loadable now", x.overrides(8, 1), true);
    }

    private static void overridesThroughAChain() {
        LinkAudit x = new LinkAudit();
        x.define(0, 0, OPEN, NONE, 0);
        x.define(0, 1, OPEN, 0, 0);
        x.define(0, 4, OPEN, 1, 0);
        x.define(0, 5, OPEN, 4, 0);
        x.method(1, 0, NUMBER, NUMBER, LinkAudit.PACKAGE);
        x.method(4, 0, NUMBER, NUMBER, LinkAudit.PUBLIC);
        due("12: PACKAGE, from another package", x.overrides(2, 1), false);
        x.method(2, 0, NUMBER, NUMBER, LinkAudit.PROTECTED);
        due("12: a neighbour of the first", x.overrides(3, 1), true);
        due("12: the last covers that", x.overrides(2, 3), true);
        due("12: and so the first", x.overrides(2, 1), true);
        due("11: which is then selected", x.select(4, 1), 2);
        LinkAudit y = new LinkAudit();
        y.define(0, 0, OPEN, NONE, 0);
        y.define(0, 1, OPEN, 0, 0);
        y.define(0, 4, OPEN, 1, 0);
        y.method(1, 0, NUMBER, NUMBER, LinkAudit.PACKAGE);
        y.method(2, 0, NUMBER, NUMBER, LinkAudit.PACKAGE);
        y.method(3, 0, NUMBER, NUMBER, LinkAudit.PUBLIC);
        due("12: no link by a PACKAGE one that is not covered", y.overrides(3, 1), false);
        y.define(0, 2, OPEN, 4, 0);
        y.method(4, 0, NUMBER, NUMBER, LinkAudit.PACKAGE);
        due("12: the neighbour below covers all three", y.overrides(4, 1) && y.overrides(4, 2) && y.overrides(4, 3), true);
        LinkAudit z = new LinkAudit();
        z.define(0, 0, OPEN, NONE, 0);
        z.define(0, 1, OPEN, 0, 0);
        z.define(0, 4, OPEN, 1, 0);
        z.define(0, 8, OPEN, 4, 0);
        z.method(1, 0, NUMBER, NUMBER, LinkAudit.PACKAGE);
        z.method(2, 0, NUMBER, NUMBER, LinkAudit.PUBLIC);
        z.method(3, 0, NUMBER, NUMBER, LinkAudit.PACKAGE);
        z.method(4, 0, NUMBER, NUMBER, LinkAudit.PUBLIC);
        due("12: past one that is not covered", z.overrides(4, 1), true);
        due("12: which stays so", z.overrides(4, 3), false);
        overridesByWayOfOneOfTwo();
        z.method(2, 1, NUMBER, NUMBER, LinkAudit.PUBLIC | LinkAudit.STATIC);
        z.method(1, 1, NUMBER, NUMBER, LinkAudit.PACKAGE);
        z.method(3, 1, NUMBER, NUMBER, LinkAudit.PUBLIC);
        due("12: no link by a static one", z.overrides(7, 6), false);
    }

    private static void overridesByWayOfOneOfTwo() {
        LinkAudit x = new LinkAudit();
        x.define(0, 0, OPEN, NONE, 0);
        x.define(0, 4, OPEN, 0, 0);
        x.define(0, 1, OPEN, 4, 0);
        x.define(0, 8, OPEN, 1, 0);
        x.method(1, 0, NUMBER, NUMBER, LinkAudit.PACKAGE);
        x.method(2, 0, NUMBER, NUMBER, LinkAudit.PUBLIC);
        x.method(3, 0, NUMBER, NUMBER, LinkAudit.PUBLIC);
        x.method(4, 0, NUMBER, NUMBER, LinkAudit.PUBLIC);
        due("12: the farther one between does not cover it", x.overrides(2, 1), false);
        due("12: the nearer one does", x.overrides(3, 1), true);
        due("12: so the last does", x.overrides(4, 1), true);
        due("11: and is selected", x.select(4, 1), 4);
        LinkAudit y = new LinkAudit();
        int[] names = {0, 4, 5, 1, 8};
        for (int i = 0; i < names.length; i++) {
            y.define(0, names[i], OPEN, i == 0 ? NONE : names[i - 1], 0);
            y.method(i + 1, 0, NUMBER, NUMBER, i < 2 ? LinkAudit.PACKAGE : LinkAudit.PUBLIC);
        }
        due("12: two ways above", y.overrides(5, 1) && y.overrides(5, 2), true);
    }

    private static void overridesInterfaces() {
        LinkAudit x = new LinkAudit();
        x.define(0, 0, OPEN_INTERFACE, NONE, 0);
        x.define(0, 1, OPEN_INTERFACE, NONE, 1 << 0);
        x.define(0, 4, OPEN, NONE, 1 << 1);
        x.define(0, 5, OPEN, 4, 0);
        x.method(1, 0, NUMBER, NUMBER, 8);
        x.method(2, 0, NUMBER, NUMBER, 0);
        x.method(3, 0, NUMBER, NUMBER, LinkAudit.PACKAGE);
        x.method(4, 0, NUMBER, NUMBER, LinkAudit.PUBLIC);
        due("12: an interface's", x.overrides(3, 2), true);
        due("12: an interface's interface's", x.overrides(3, 1), true);
        due("12: an interface's of the super", x.overrides(4, 1), true);
        due("12: an interface overrides what it extends", x.overrides(2, 1), true);
        due("12: not the other way round", x.overrides(1, 2), false);
        x.method(1, 1, NUMBER, NUMBER, 3);
        x.method(3, 1, NUMBER, NUMBER, 0);
        due("12: a PRIVATE one of an interface", x.overrides(6, 5), false);
        x.define(0, 8, OPEN, NONE, 0);
        x.define(0, 9, OPEN, 8, 1 << 0);
        x.method(5, 0, NUMBER, NUMBER, 0);
        due("12: it covers, but its class has not the interface", x.overrides(7, 1), false);
        due("11: yet it is selected", x.select(6, 1), 7);
    }

    // Promise 13

    private static void gapsAreCounted() {
        LinkAudit x = new LinkAudit();
        x.define(0, 0, OPEN_INTERFACE, NONE, 0);
        x.define(0, 1, OPEN, NONE, 1 << 0);
        x.define(0, 2, OPEN, 1, 0);
        x.define(0, 3, OPEN | LinkAudit.IS_ABSTRACT, NONE, 1 << 0);
        x.define(0, 4, OPEN, 9, 1 << 0);
        x.method(1, 0, NUMBER, NUMBER, 8);
        due("13: both classes", x.gaps(), 2);
        x.method(3, 0, NUMBER, NUMBER, 0);
        due("13: one has code now", x.gaps(), 1);
        x.method(2, 0, NUMBER, NUMBER, 8);
        due("13: its own abstract one is no gap of itself", x.gaps(), 1);
        x.method(1, 1, NUMBER, NUMBER, LinkAudit.STATIC);
        x.method(1, 2, NUMBER, NUMBER, LinkAudit.PRIVATE);
        x.method(1, 3, NUMBER, NUMBER, 0);
        due("13: static, PRIVATE, with code", x.gaps(), 1);
        x.method(2, 3, NUMBER, NUMBER, LinkAudit.PROTECTED);
        due("13: ILLEGAL is a code too", x.gaps(), 3);
        x.define(0, 9, OPEN, NONE, 0);
        due("13: one more class is loadable", x.gaps(), 4);
        x.method(2, 2, 0, NUMBER, 8);
        due("13: a super's abstract one", x.gaps(), 5);
        x.define(0, 10, OPEN | LinkAudit.IS_ABSTRACT, 2, 0);
        due("13: abstract classes have none", x.gaps(), 5);
        due("16: faults", x.faults(), 5);
    }

    // Promises 14 and 15

    private static void conflictsOfReferences() {
        LinkAudit x = new LinkAudit();
        x.define(1, 0, OPEN, NONE, 0);
        x.define(1, 8, OPEN, NONE, 0);
        x.define(2, 8, OPEN, NONE, 0);
        x.define(2, 1, OPEN, NONE, 0);
        x.provide(2, 1);
        x.mask(2, 8, true);
        x.field(1, 0, 8, 0);
        x.method(1, 0, NUMBER, 8, 0);
        x.method(1, 1, 8, NUMBER, 0);
        due("14: nobody refers", x.conflicts(), 0);
        x.reference(4, LinkAudit.CALL * 4, 0, NUMBER, 8);
        due("14: by an answer", x.conflicts(), 1);
        due("15: name", x.conflict(0, 0), 8);
        due("15: first loader", x.conflict(0, 1), 1);
        due("15: second loader", x.conflict(0, 2), 2);
        x.reference(4, LinkAudit.CALL * 4 + 1, 0, 8, NUMBER);
        x.reference(4, LinkAudit.FIELD * 4, 0, 8, 3);
        due("14: once for each name and pair", x.conflicts(), 1);
        x.mask(2, 8, false);
        due("14: they find the same", x.conflicts(), 0);
        x.mask(2, 8, true);
        due("14: and not", x.conflicts(), 1);
        LinkAudit y = new LinkAudit();
        y.define(1, 0, OPEN, NONE, 0);
        y.define(1, 3, OPEN, NONE, 0);
        y.define(2, 3, OPEN, NONE, 0);
        y.define(2, 1, OPEN, NONE, 0);
        y.provide(2, 1);
        y.mask(2, 3, true);
        y.field(1, 0, 3, LinkAudit.PACKAGE);
        y.reference(4, LinkAudit.FIELD * 4, 0, 3, 3);
        due("10: ILLEGAL", y.verdict(0), LinkAudit.ILLEGAL);
        due("14: a verdict that is a code asks nothing", y.conflicts(), 0);
        y.reference(4, 0, 0, 3, 3);
        due("10: NEW", y.verdict(1), 1);
        due("14: NEW asks nothing", y.conflicts(), 0);
        y.field(1, 1, 3, 0);
        y.reference(4, LinkAudit.FIELD * 4 + 1, 0, 3, 5);
        due("14: by a field", y.conflicts(), 1);
    }

    private static void conflictsOfOverriding() {
        LinkAudit x = new LinkAudit();
        x.define(3, 0, OPEN_INTERFACE, NONE, 0);
        x.define(1, 4, OPEN, NONE, 1 << 0);
        x.define(1, 9, OPEN, NONE, 0);
        x.define(3, 9, OPEN, NONE, 0);
        x.provide(1, 3);
        x.mask(1, 9, true);
        x.method(1, 0, 9, 9, 8);
        due("14: nothing overrides", x.conflicts(), 0);
        x.method(2, 0, 9, 9, 2);
        due("14: a class's method overrides an interface's", x.conflicts(), 1);
        due("15: the lesser loader first", x.conflict(0, 1), 1);
        due("15: then the other", x.conflict(0, 2), 3);
        x.define(1, 5, OPEN_INTERFACE, NONE, 1 << 0);
        x.define(1, 10, OPEN, NONE, 0);
        x.define(3, 10, OPEN, NONE, 0);
        x.mask(1, 10, true);
        x.method(1, 1, NUMBER, 10, 0);
        x.method(5, 1, NUMBER, 10, 0);
        due("14: an interface's method overrides one too", x.conflicts(), 2);
        x.mask(1, 0, true);
        due("14: their classes are not loadable", x.conflicts(), 0);
        due("15: none", x.conflict(0, 0), LinkAudit.REFUSED);
    }

    private static void conflictsInAChain() {
        LinkAudit x = new LinkAudit();
        x.define(0, 0, OPEN, NONE, 0);
        x.define(1, 1, OPEN, 0, 0);
        x.define(2, 1, OPEN, 0, 0);
        x.define(1, 7, OPEN, NONE, 0);
        x.define(2, 7, OPEN, NONE, 0);
        x.method(1, 0, 7, NUMBER, 0);
        x.method(2, 0, 7, NUMBER, 0);
        due("14: the host finds nothing", x.conflicts(), 0);
        x.method(3, 0, 7, NUMBER, 0);
        due("14: through the host, who finds nothing", x.conflicts(), 1);
        due("15: first", x.conflict(0, 1), 1);
        due("15: second", x.conflict(0, 2), 2);
        x.define(3, 1, OPEN, 0, 0);
        x.define(3, 7, OPEN, NONE, 0);
        x.method(6, 0, 7, NUMBER, 0);
        due("14: three pairs", x.conflicts(), 3);
        x.define(0, 7, OPEN, NONE, 0);
        due("14: all find the host's", x.conflicts(), 0);
        x.mask(2, 7, true);
        due("14: all but one", x.conflicts(), 3);
        due("15: with the host", x.conflict(0, 1), 0);
        due("15: between", x.conflict(1, 2), 2);
        due("15: with the last", x.conflict(2, 2), 3);
    }

    private static void conflictsWithTheHost() {
        LinkAudit x = new LinkAudit();
        x.define(0, 0, OPEN, NONE, 0);
        x.define(1, 1, OPEN, NONE, 0);
        x.define(2, 2, OPEN, NONE, 0);
        x.define(0, 11, OPEN, NONE, 0);
        x.define(1, 11, OPEN, NONE, 0);
        x.provide(2, 1);
        x.mask(1, 11, true);
        x.method(1, 0, NUMBER, 11, 0);
        x.method(2, 0, NUMBER, 11, 0);
        x.reference(3, LinkAudit.CALL * 4, 0, NUMBER, 11);
        x.reference(3, LinkAudit.CALL * 4, 1, NUMBER, 11);
        due("15: asked first: name", x.conflict(0, 0), 11);
        due("15: the host, in a chain", x.conflict(0, 1), 0);
        due("15: the first plugin", x.conflict(0, 2), 1);
        due("14: two pairs", x.conflicts(), 2);
        due("15: the second pair", x.conflict(1, 1), 1);
        x.mask(2, 1, true);
        due("14: the chain is cut", x.conflicts(), 0);
        x.mask(2, 1, false);
        x.mask(2, 0, true);
        due("14: cut at the other end", x.conflicts(), 1);
        due("15: the pair that is left", x.conflict(0, 1), 1);
    }

    private static void conflictsOfLastMember() {
        LinkAudit x = new LinkAudit();
        x.define(0, 4, OPEN, NONE, 0);
        x.define(1, 5, OPEN, 4, 0);
        x.define(0, 0, OPEN, NONE, 0);
        x.define(1, 0, OPEN, NONE, 0);
        x.mask(1, 0, true);
        x.method(2, 0, 0, NUMBER, 0);
        due("14: nothing to override", x.conflicts(), 0);
        x.method(1, 0, 0, NUMBER, 0);
        due("14: the overridden one is the last", x.conflicts(), 1);
        due("15: on the name 0", x.conflict(0, 0), 0);
    }

    private static void conflictsInOrder() {
        LinkAudit x = new LinkAudit();
        x.define(0, 0, OPEN, NONE, 0);
        for (int loader = 4; loader >= 1; loader--) {
            x.define(loader, 1, OPEN, 0, 0);
            x.define(loader, 11, OPEN, NONE, 0);
            x.define(loader, 4, OPEN, NONE, 0);
        }
        x.method(1, 0, 11, 4, 0);
        for (int i = 0; i < 4; i++) {
            x.method(2 + 3 * i, 0, 11, 4, 0);
        }
        due("14: six pairs on two names", x.conflicts(), 12);
        int k = 0;
        for (int name = 4; name <= 11; name += 7) {
            for (int first = 1; first <= 4; first++) {
                for (int second = first + 1; second <= 4; second++) {
                    due("15: name of " + k, x.conflict(k, 0), name);
                    due("15: first of " + k, x.conflict(k, 1), first);
                    due("15: second of " + k, x.conflict(k, 2), second);
                    k++;
                }
            }
        }
        int[] outs = {-1, 12, OUT, FAR_BELOW};
        for (int out : outs) {
            due("15: k " + out, x.conflict(out, 0), LinkAudit.REFUSED);
        }
        int[] others = {-1, 3, OUT, FAR_BELOW};
        for (int what : others) {
            due("15: what " + what, x.conflict(0, what), LinkAudit.REFUSED);
        }
        due("16: faults", x.faults(), 12);
    }

    // Promise 16

    private static void faultsAreSummed() {
        LinkAudit x = new LinkAudit();
        x.define(1, 0, OPEN | LinkAudit.IS_ABSTRACT, NONE, 0);
        x.define(2, 1, OPEN, 0, 0);
        x.define(1, 4, OPEN, NONE, 0);
        x.define(2, 4, OPEN, NONE, 0);
        x.provide(2, 1);
        x.mask(2, 4, true);
        x.reference(2, 0, 0, 0, 0);
        due("16: a reference", x.faults(), 1);
        x.reference(2, 0, 1, 0, 0);
        due("16: a good one", x.faults(), 1);
        x.method(1, 0, NUMBER, NUMBER, 8);
        due("16: a gap", x.faults(), 2);
        x.method(1, 1, 4, NUMBER, 0);
        x.method(2, 1, 4, NUMBER, 0);
        due("16: a conflict", x.faults(), 3);
        due("16: gaps", x.gaps(), 1);
        due("16: conflicts", x.conflicts(), 1);
        x.reference(2, LinkAudit.CALL * 4 + 1, 0, 4, NUMBER);
        due("16: what must agree already", x.faults(), 3);
        x.mask(2, 0, true);
        due("16: UNLOADED, all three", x.faults(), 3);
    }

    // Promise 17

    private static void countTellsSizes() {
        LinkAudit x = new LinkAudit();
        x.define(1, 0, OPEN, NONE, 0);
        x.define(1, 1, OPEN, NONE, 0);
        x.define(1, 2, OPEN, NONE, 0);
        x.field(1, 0, 0, 0);
        x.method(1, 0, 0, 0, 0);
        x.reference(1, 0, 0, 0, 0);
        due("17: classes", x.count(0), 3);
        due("17: members", x.count(1), 2);
        due("17: references", x.count(2), 1);
        int[] outs = {-1, 3, OUT, FAR_BELOW};
        for (int out : outs) {
            due("17: what " + out, x.count(out), LinkAudit.REFUSED);
        }
    }

    private static void refusedChangesNothing() {
        LinkAudit x = new LinkAudit();
        x.define(1, 0, OPEN, NONE, 0);
        x.method(1, 0, NUMBER, NUMBER, 0);
        x.define(1, 0, 0, 9, 4095);
        x.method(1, 0, NUMBER, NUMBER, 8);
        due("4: the class is as it was", x.load(1), 1);
        due("6: the method is as it was", x.select(1, 1), 1);
        x.mask(1, 12, true);
        x.mask(5, 0, true);
        x.provide(1, 1);
        due("8: found as it was", x.find(1, 0), 1);
        due("17: classes", x.count(0), 1);
        due("17: members", x.count(1), 1);
    }
}
