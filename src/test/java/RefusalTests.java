import java.util.ArrayList;
import java.util.Arrays;
import java.util.List;

/**
 * The sentences of the document about ranges, full rows and calls that change nothing: for each one
 * a test of its own, with the sentence's words at its head.
 */
public final class RefusalTests {
    private static final int REFUSED = LinkAudit.REFUSED;
    private static final int FULL = LinkAudit.FULL;
    private static final int NONE = 12;
    private static final int NUMBER = 12;
    private static final int OPEN = LinkAudit.IS_PUBLIC;
    private static final int OPEN_INTERFACE = LinkAudit.IS_PUBLIC | LinkAudit.IS_INTERFACE;
    private static String sentence = "";
    private static int wrong = 0;

    /** A call of which one number is left open. */
    private interface Open {
        int on(LinkAudit x, int value);
    }

    /** A call with all its numbers. */
    private interface Closed {
        int on(LinkAudit x);
    }

    public static void main(String[] args) {
        provideTakesLoaders();
        provideRefusesItselfAndOneTwice();
        provideIsFullAtThree();
        provideTellsHowMany();
        hostHasNoRowAndNoMasks();
        maskTakesLoadersAndNames();
        defineTakesItsRanges();
        defineRefusesSomeInterfaces();
        defineRefusesOneTwice();
        defineIsFullAtSixteen();
        fieldTakesItsRanges();
        fieldRefusesAlike();
        fieldIsFullAtForty();
        methodTakesItsRanges();
        methodRefusesFlagsOfInterfaces();
        methodRefusesFlagsOfAbstractOnes();
        methodRefusesAlike();
        methodIsFullAtForty();
        fieldsAndMethodsShareForty();
        referenceTakesItsRanges();
        referenceTakesAnyOfWhatItDoesNotUse();
        referenceIsFullAtTwelve();
        findTakesItsRanges();
        loadTakesItsRange();
        verdictTakesItsRange();
        selectTakesItsRanges();
        conflictTakesItsRanges();
        overridesIsFalseForOtherNumbers();
        countTakesThree();
        rangesAreTestedFirst();
        otherRefusalsAreTestedBeforeFull();
        refusedChangesNothing();
        fullChangesNothing();
        anObjectServes512Calls();
        System.out.println(wrong == 0 ? "all refusals are as due" : wrong + " answers are not as due");
        if (wrong != 0) {
            System.exit(1);
        }
    }

    private static void says(String words) {
        sentence = words;
    }

    private static void due(String call, int got, int want) {
        if (got != want) {
            wrong++;
            System.out.println("\"" + sentence + "\" " + call + ": answered " + got + ", due is " + want);
        }
    }

    private static void holds(String what, boolean got) {
        due(what, got ? 1 : 0, 1);
    }

    /** Numbers just outside of a range, far outside, and such as a cast or a shift would wrap into it. */
    private static List<Integer> outside(int least, int most) {
        int[] tried = {
            least - 1, least - 2, most + 1, most + 2, -1, -2, -3, -12, -16, -32, 32, 33, 64, 65, 255, 256, 257,
            4096, 4097, 65535, 65536, 65537, -256, -255, -65536, -65535, 1 << 30, 1 << 31, (1 << 31) + 1,
            Integer.MAX_VALUE, Integer.MAX_VALUE - 1,
        };
        List<Integer> row = new ArrayList<>();
        for (int value : tried) {
            if (value < least || value > most) {
                row.add(value);
            }
        }
        return row;
    }

    /** Each number from least to most is taken by a new object; none outside of these is. */
    private static void takes(String what, int least, int most, Open call) {
        for (int value = least; value <= most; value++) {
            holds(what + " " + value + " is taken", call.on(ready(), value) >= 0);
        }
        refusesOutside(what, least, most, call);
    }

    private static void refusesOutside(String what, int least, int most, Open call) {
        for (int value : outside(least, most)) {
            due(what + " " + value, call.on(ready(), value), REFUSED);
        }
    }

    /** A class, the number 1, and an interface, 2, of the loader 1. */
    private static LinkAudit ready() {
        LinkAudit x = new LinkAudit();
        x.define(1, 0, OPEN, NONE, 0);
        x.define(1, 1, OPEN_INTERFACE, NONE, 0);
        return x;
    }

    /**
     * All rows are full, and nothing is at fault. No loader has the name 11, no plugin has the host
     * as provider, and only the class 1, of the loader 1 and the name 10, has members.
     */
    private static LinkAudit full() {
        LinkAudit x = new LinkAudit();
        for (int loader = 1; loader <= 4; loader++) {
            for (int other = 1; other <= 4; other++) {
                if (other != loader) {
                    x.provide(loader, other);
                }
            }
        }
        for (int name = 10; name >= 0; name--) {
            x.define(1, name, name == 9 ? OPEN_INTERFACE : OPEN, NONE, 0);
        }
        for (int name = 0; name < 5; name++) {
            x.define(2, name, OPEN, NONE, 0);
        }
        for (int i = 0; i < 39; i++) {
            x.field(1, i / 13, i % 13, 0);
        }
        x.method(1, 0, 0, 0, 0);
        for (int i = 0; i < 12; i++) {
            x.reference(1, LinkAudit.FIELD * 4, 10, i, 0);
        }
        return x;
    }

    // Promise 2

    private static void provideTakesLoaders() {
        says("The loader 1 .. 4 has the other one, 0 .. 4, as its last provider.");
        takes("loader", 1, 4, (x, value) -> x.provide(value, 0));
        for (int other = 0; other <= 4; other++) {
            due("provider " + other, ready().provide(other == 4 ? 1 : 4, other), 1);
        }
        refusesOutside("provider", 0, 4, (x, value) -> x.provide(1, value));
        LinkAudit x = new LinkAudit();
        x.define(4, 5, OPEN, NONE, 0);
        x.define(2, 5, OPEN, NONE, 0);
        x.provide(1, 4);
        x.provide(1, 2);
        due("the last one is asked last", x.find(1, 5), 1);
    }

    private static void provideRefusesItselfAndOneTwice() {
        says("It is itself, or a provider already: REFUSED.");
        LinkAudit x = new LinkAudit();
        for (int loader = 1; loader <= 4; loader++) {
            due(loader + " itself", x.provide(loader, loader), REFUSED);
        }
        x.provide(2, 0);
        due("the first of one", x.provide(2, 0), REFUSED);
        x.provide(2, 4);
        due("the first of two", x.provide(2, 0), REFUSED);
        due("the last of two", x.provide(2, 4), REFUSED);
        x.provide(2, 1);
        due("the middle of three", x.provide(2, 4), REFUSED);
        due("another loader's provider is none of its own", x.provide(3, 4), 1);
        due("nor is the one whose provider it is", x.provide(4, 2), 1);
    }

    private static void provideIsFullAtThree() {
        says("It has 3: FULL.");
        for (int loader = 1; loader <= 4; loader++) {
            LinkAudit x = new LinkAudit();
            int has = 0;
            for (int other = 4; other >= 0; other--) {
                if (other != loader) {
                    has++;
                    due("provider " + has, x.provide(loader, other), has <= 3 ? has : FULL);
                }
            }
            due("and again", x.provide(loader, 0), FULL);
            due("another loader is not full", x.provide(loader % 4 + 1, 0), 1);
        }
        LinkAudit x = full();
        x.define(0, 11, OPEN, NONE, 0);
        due("a fourth of a full object", x.provide(1, 0), FULL);
    }

    private static void provideTellsHowMany() {
        says("How many it has.");
        LinkAudit x = new LinkAudit();
        due("one", x.provide(3, 1), 1);
        due("another loader's one", x.provide(4, 1), 1);
        due("two", x.provide(3, 4), 2);
        due("refused", x.provide(3, 4), REFUSED);
        due("three", x.provide(3, 2), 3);
    }

    private static void hostHasNoRowAndNoMasks() {
        says("Each but the host has a row of at most 3 PROVIDERS (other loaders, no one twice) and may MASK names.");
        LinkAudit x = new LinkAudit();
        for (int other = 0; other <= 4; other++) {
            due("provider " + other + " of the host", x.provide(0, other), REFUSED);
        }
        x.define(0, 0, OPEN, NONE, 0);
        for (int name = 0; name < 12; name++) {
            due("the host masks", x.mask(0, name, true), REFUSED);
            due("the host unmasks", x.mask(0, name, false), REFUSED);
        }
        due("the host finds it still", x.find(0, 0), 1);
        for (int loader = 1; loader <= 4; loader++) {
            due(loader + " masks", x.mask(loader, 0, true), 0);
            due(loader + " finds nothing", x.find(loader, 0), LinkAudit.NO_CLASS);
        }
    }

    // Promise 3

    private static void maskTakesLoadersAndNames() {
        says("The loader 1 .. 4 masks the name, or not any more. 0.");
        takes("loader, on", 1, 4, (x, value) -> x.mask(value, 0, true));
        takes("loader, off", 1, 4, (x, value) -> x.mask(value, 0, false));
        takes("name, on", 0, 11, (x, value) -> x.mask(1, value, true));
        takes("name, off", 0, 11, (x, value) -> x.mask(4, value, false));
        LinkAudit x = new LinkAudit();
        x.define(0, 0, OPEN, NONE, 0);
        x.define(0, 11, OPEN, NONE, 0);
        due("on", x.mask(1, 11, true), 0);
        due("on again", x.mask(1, 11, true), 0);
        due("masked", x.find(1, 11), LinkAudit.NO_CLASS);
        due("another name is not", x.find(1, 0), 1);
        due("another loader does not", x.find(2, 11), 2);
        due("off", x.mask(1, 11, false), 0);
        due("masked no more, though twice on", x.find(1, 11), 2);
        due("off again", x.mask(1, 11, false), 0);
        due("still not", x.find(1, 11), 2);
        due("and on", x.mask(1, 11, true), 0);
        due("masked again, though twice off", x.find(1, 11), LinkAudit.NO_CLASS);
        due("another name on", x.mask(1, 0, true), 0);
        due("the first one is masked still", x.find(1, 11), LinkAudit.NO_CLASS);
        due("another name off", x.mask(1, 0, false), 0);
        due("and the first one is masked even so", x.find(1, 11), LinkAudit.NO_CLASS);
        due("another loader's name off", x.mask(2, 11, false), 0);
        due("and it is masked even so", x.find(1, 11), LinkAudit.NO_CLASS);
    }

    // Promise 4

    private static void defineTakesItsRanges() {
        says("Defines a class: loader, name, flags 0 .. 15, super 0 .. 12, interfaces a sum of 1 << name, 0 .. 4095.");
        takes("loader", 0, 4, (x, value) -> x.define(value, 11, 0, NONE, 0));
        takes("name", 0, 11, (x, value) -> x.define(2, value, 0, NONE, 0));
        takes("super", 0, 12, (x, value) -> x.define(2, 0, 0, value, 0));
        takes("interfaces", 0, 4095, (x, value) -> x.define(2, 0, 0, NONE, value));
        takes("interfaces of an interface", 0, 4095, (x, value) -> x.define(2, 0, OPEN_INTERFACE, NONE, value));
        for (int flags = 0; flags < 16; flags++) {
            boolean isFinalInterface = (flags & 10) == 10;
            due("flags " + flags, ready().define(2, 0, flags, NONE, 0), isFinalInterface ? REFUSED : 3);
        }
        refusesOutside("flags", 0, 15, (x, value) -> x.define(2, 0, value, NONE, 0));
        LinkAudit x = new LinkAudit();
        for (int number = 1; number <= 5; number++) {
            due("its number", x.define(5 - number, 7, OPEN, NONE, 0), number);
        }
    }

    private static void defineRefusesSomeInterfaces() {
        says("It is an interface with a super, or final; the loader has a class of that name: REFUSED.");
        for (int superName = 0; superName < 12; superName++) {
            due("an interface with super " + superName, ready().define(1, 2, OPEN_INTERFACE, superName, 0), REFUSED);
            due("a class with super " + superName, ready().define(1, 2, OPEN, superName, 0), 3);
        }
        due("an interface with none", ready().define(1, 2, OPEN_INTERFACE, NONE, 0), 3);
        int finalOne = OPEN_INTERFACE | LinkAudit.IS_FINAL;
        due("a final interface", ready().define(1, 2, finalOne, NONE, 0), REFUSED);
        due("a final abstract interface", ready().define(1, 2, 15, NONE, 0), REFUSED);
        due("a final class", ready().define(1, 2, LinkAudit.IS_FINAL, NONE, 0), 3);
        due("a final class with a super", ready().define(1, 2, LinkAudit.IS_FINAL, 0, 0), 3);
        due("a final abstract class", ready().define(1, 2, LinkAudit.IS_FINAL | LinkAudit.IS_ABSTRACT, NONE, 0), 3);
    }

    private static void defineRefusesOneTwice() {
        says("a loader, a name (no two with both alike)");
        for (int loader = 0; loader <= 4; loader++) {
            for (int name = 0; name < 12; name += 11) {
                LinkAudit x = new LinkAudit();
                due("first", x.define(loader, name, OPEN, NONE, 0), 1);
                due("both alike", x.define(loader, name, OPEN, NONE, 0), REFUSED);
                due("with other flags and supers", x.define(loader, name, 0, 5, 96), REFUSED);
                due("another name", x.define(loader, 11 - name, OPEN, NONE, 0), 2);
                due("another loader", x.define(4 - loader == loader ? 0 : 4 - loader, name, OPEN, NONE, 0), 3);
            }
        }
        LinkAudit x = new LinkAudit();
        x.define(0, 3, OPEN, NONE, 0);
        x.define(2, 3, OPEN, NONE, 0);
        x.provide(1, 2);
        due("what it finds with others it may have itself too", x.define(1, 3, OPEN, NONE, 0), 3);
        x.mask(1, 3, true);
        due("what it masks it has still", x.define(1, 3, OPEN, NONE, 0), REFUSED);
    }

    private static void defineIsFullAtSixteen() {
        says("There are 16: FULL.");
        LinkAudit x = new LinkAudit();
        for (int number = 1; number <= 16; number++) {
            due("class " + number, x.define(number % 5, number % 12, OPEN, NONE, 0), number);
        }
        for (int loader = 0; loader <= 4; loader++) {
            due("a seventeenth, of the loader " + loader, x.define(loader, loader + 4, OPEN, NONE, 0), FULL);
        }
        due("as many as there were", x.count(0), 16);
        due("of the last one", x.field(16, 0, 0, 0), 1);
        due("of the next one", x.field(17, 0, 0, 0), REFUSED);
    }

    // Promise 5

    private static void fieldTakesItsRanges() {
        says("A field of a class: name 0 .. 3, type 0 .. 12, flags 0 .. 7.");
        takes("owner", 1, 2, (x, value) -> x.field(value, 0, 0, 0));
        takes("name", 0, 3, (x, value) -> x.field(1, value, 0, 0));
        takes("type", 0, 12, (x, value) -> x.field(1, 0, value, 0));
        takes("flags", 0, 7, (x, value) -> x.field(1, 0, 0, value));
        takes("flags of an interface's", 0, 7, (x, value) -> x.field(2, 0, 0, value));
        due("no class yet", new LinkAudit().field(1, 0, 0, 0), REFUSED);
        LinkAudit x = ready();
        for (int number = 1; number <= 4; number++) {
            due("its number", x.field(number % 2 + 1, number / 2, 0, 0), number);
        }
    }

    private static void fieldRefusesAlike() {
        says("No two fields of a class are alike in name and type");
        LinkAudit x = ready();
        for (int type = 0; type <= 12; type += 12) {
            for (int name = 0; name <= 3; name += 3) {
                x.field(1, name, type, 0);
                for (int flags = 0; flags < 8; flags++) {
                    due("alike, flags " + flags, x.field(1, name, type, flags), REFUSED);
                }
            }
        }
        due("another type", x.field(1, 0, 1, 0), 5);
        due("another name", x.field(1, 1, 0, 0), 6);
        due("another class", x.field(2, 0, 0, 0), 7);
        due("a method of that name and type", x.method(1, 0, 0, 0, 0), 8);
        due("and of its type alone", x.method(1, 0, 0, NUMBER, 0), 9);
        due("a field beside a method", x.field(1, 2, 0, 0), 10);
    }

    private static void fieldIsFullAtForty() {
        says("A LIKE one: REFUSED. 40 members: FULL. Its number.");
        LinkAudit x = ready();
        for (int i = 0; i < 40; i++) {
            due("field " + (i + 1), x.field(1, i / 13, i % 13, 0), i + 1);
        }
        due("one more", x.field(1, 3, 12, 0), FULL);
        due("of another class", x.field(2, 0, 0, 0), FULL);
        due("a like one", x.field(1, 3, 0, 0), REFUSED);
        due("a method", x.method(2, 0, 0, 0, 0), FULL);
        due("as many as there were", x.count(1), 40);
    }

    // Promise 6

    private static void methodTakesItsRanges() {
        says("A method of a class: name 0 .. 3, argument and answer 0 .. 12, flags 0 .. 15.");
        takes("owner", 1, 2, (x, value) -> x.method(value, 0, 0, 0, 0));
        takes("name", 0, 3, (x, value) -> x.method(1, value, 0, 0, 0));
        takes("argument", 0, 12, (x, value) -> x.method(1, 0, value, 0, 0));
        takes("answer", 0, 12, (x, value) -> x.method(1, 0, 0, value, 0));
        for (int flags = 0; flags <= 10; flags++) {
            due("flags " + flags, ready().method(1, 0, 0, 0, flags), 1);
        }
        refusesOutside("flags", 0, 15, (x, value) -> x.method(1, 0, 0, 0, value));
        refusesOutside("flags of an interface's", 0, 15, (x, value) -> x.method(2, 0, 0, 0, value));
        due("no class yet", new LinkAudit().method(1, 0, 0, 0, 0), REFUSED);
        LinkAudit x = ready();
        for (int number = 1; number <= 4; number++) {
            due("its number", x.method(number % 2 + 1, 0, number / 2, 0, 0), number);
        }
    }

    private static void methodRefusesFlagsOfInterfaces() {
        says("A method of an interface is PUBLIC or PRIVATE");
        int[] taken = {0, 3, 4, 7, 8};
        for (int flags = 0; flags < 16; flags++) {
            boolean isTaken = Arrays.binarySearch(taken, flags) >= 0;
            due("flags " + flags, ready().method(2, 0, 0, 0, flags), isTaken ? 1 : REFUSED);
        }
    }

    private static void methodRefusesFlagsOfAbstractOnes() {
        says("an abstract one is neither PRIVATE nor static");
        for (int flags = 0; flags < 16; flags++) {
            due("flags " + flags, ready().method(1, 0, 0, 0, flags), flags <= 10 ? 1 : REFUSED);
        }
        LinkAudit x = ready();
        x.define(1, 2, OPEN | LinkAudit.IS_ABSTRACT, NONE, 0);
        x.define(1, 3, OPEN | LinkAudit.IS_FINAL, NONE, 0);
        due("of an abstract class", x.method(3, 0, 0, 0, LinkAudit.ABSTRACT), 1);
        due("of a final class", x.method(4, 0, 0, 0, LinkAudit.ABSTRACT), 2);
        due("PRIVATE, of an abstract class", x.method(3, 1, 0, 0, LinkAudit.ABSTRACT | 3), REFUSED);
        due("static, of an abstract class", x.method(3, 1, 0, 0, LinkAudit.ABSTRACT | 4), REFUSED);
    }

    private static void methodRefusesAlike() {
        says("no two methods in name and both types (LIKE)");
        LinkAudit x = ready();
        x.method(1, 3, 12, 0, 0);
        for (int flags = 0; flags < 16; flags++) {
            due("alike, flags " + flags, x.method(1, 3, 12, 0, flags), REFUSED);
        }
        due("the types the other way round", x.method(1, 3, 0, 12, 0), 2);
        due("another name", x.method(1, 2, 12, 0, 0), 3);
        due("another argument", x.method(1, 3, 11, 0, 0), 4);
        due("another answer", x.method(1, 3, 12, 1, 0), 5);
        due("another class", x.method(2, 3, 12, 0, 0), 6);
        due("a field of that name and argument", x.field(1, 3, 12, 0), 7);
        due("a field of that name and answer", x.field(1, 3, 0, 0), 8);
        x.field(1, 0, 5, 0);
        due("a method beside a field", x.method(1, 0, 5, NUMBER, 0), 10);
        due("and with its type as answer", x.method(1, 0, NUMBER, 5, 0), 11);
    }

    private static void methodIsFullAtForty() {
        says("Not as said of methods of interfaces and abstract ones, or a LIKE one: REFUSED. 40 members: FULL.");
        LinkAudit x = ready();
        for (int i = 0; i < 40; i++) {
            due("method " + (i + 1), x.method(1, i % 4, i / 4, 12, 0), i + 1);
        }
        due("one more", x.method(1, 0, 12, 12, 0), FULL);
        due("of another class", x.method(2, 0, 0, 12, 0), FULL);
        due("a field", x.field(1, 0, 0, 0), FULL);
        due("a like one", x.method(1, 3, 9, 12, 0), REFUSED);
        due("PACKAGE, of an interface", x.method(2, 0, 0, 12, LinkAudit.PACKAGE), REFUSED);
        due("PROTECTED, of an interface", x.method(2, 0, 0, 12, LinkAudit.PROTECTED), REFUSED);
        due("abstract and PRIVATE", x.method(1, 0, 12, 12, 11), REFUSED);
        due("abstract and static", x.method(1, 0, 12, 12, 12), REFUSED);
        due("as many as there were", x.count(1), 40);
        due("the last one is there", x.select(1, 40), 40);
    }

    private static void fieldsAndMethodsShareForty() {
        says("MEMBERS are numbered 1, 2, .. as they are made, at most 40");
        LinkAudit x = ready();
        for (int number = 1; number <= 39; number += 2) {
            due("a field", x.field(1, number / 2 / 13, number / 2 % 13, 0), number);
            due("a method", x.method(2, number / 2 / 13, number / 2 % 13, 0, 0), number + 1);
        }
        due("one field more", x.field(2, 3, 0, 0), FULL);
        due("one method more", x.method(1, 3, 0, 0, 0), FULL);
    }

    // Promise 7

    private static void referenceTakesItsRanges() {
        says("A reference of the class: kind * 4 + name, 0 .. 23, a class name, two types 0 .. 12");
        takes("from", 1, 2, (x, value) -> x.reference(value, 12, 0, 0, 0));
        takes("kind", 0, 23, (x, value) -> x.reference(1, value, 0, 0, 0));
        takes("class name", 0, 11, (x, value) -> x.reference(1, 12, value, 0, 0));
        for (int kind = 0; kind < 24; kind++) {
            int fixed = kind;
            takes("first type, kind " + kind, 0, 12, (x, value) -> x.reference(1, fixed, 0, value, 0));
            takes("second type, kind " + kind, 0, 12, (x, value) -> x.reference(1, fixed, 0, 0, value));
        }
        due("no class yet", new LinkAudit().reference(1, 0, 0, 0, 0), REFUSED);
    }

    private static void referenceTakesAnyOfWhatItDoesNotUse() {
        says("(NEW: the name and both may be any of these; fields: the second one too)");
        for (int type = 0; type <= 12; type++) {
            LinkAudit x = ready();
            x.field(1, 3, 5, 0);
            x.field(1, 3, 6, LinkAudit.STATIC);
            for (int name = 0; name < 4; name++) {
                x.reference(1, LinkAudit.NEW * 4 + name, 0, type, 12 - type);
                due("NEW, name " + name + ", types " + type, x.verdict(name), 1);
            }
            x.reference(1, LinkAudit.FIELD * 4 + 3, 0, 5, type);
            due("a field, second type " + type, x.verdict(4), 1);
            x.reference(1, LinkAudit.FIELD_STATIC * 4 + 3, 0, 6, type);
            due("a static field, second type " + type, x.verdict(5), 2);
        }
        due("NEW, but out of range", ready().reference(1, 3, 0, 13, 0), REFUSED);
        due("a field, but out of range", ready().reference(1, LinkAudit.FIELD * 4, 0, 0, 13), REFUSED);
    }

    private static void referenceIsFullAtTwelve() {
        says("12 references: FULL. Its number, from 0.");
        LinkAudit x = ready();
        for (int number = 0; number < 12; number++) {
            due("reference " + number, x.reference(1 + number % 2, 2 * number, number, 0, 0), number);
        }
        for (int kind = 0; kind < 24; kind += 4) {
            due("a thirteenth, kind " + kind, x.reference(1, kind, 0, 0, 0), FULL);
        }
        due("as many as there were", x.count(2), 12);
        due("the last one", x.verdict(11), LinkAudit.NO_CLASS);
        due("and no other", x.verdict(12), REFUSED);
    }

    // Promises 8 to 11

    private static void findTakesItsRanges() {
        says("What the loader 0 .. 4 finds for the name");
        for (int loader = 0; loader <= 4; loader++) {
            for (int name = 0; name < 12; name++) {
                due("nothing", new LinkAudit().find(loader, name), LinkAudit.NO_CLASS);
            }
        }
        refusesOutside("loader", 0, 4, (x, value) -> x.find(value, 0));
        refusesOutside("name", 0, 11, (x, value) -> x.find(1, value));
    }

    private static void loadTakesItsRange() {
        says("The class's number if it is loadable, else its code.");
        takes("class", 1, 2, LinkAudit::load);
        due("the sixteenth", full().load(16), 16);
        due("the seventeenth", full().load(17), REFUSED);
        due("no class yet", new LinkAudit().load(1), REFUSED);
    }

    private static void verdictTakesItsRange() {
        says("The VERDICT of the reference.");
        for (int out : outside(0, 11)) {
            due("reference " + out, full().verdict(out), REFUSED);
        }
        due("the first", full().verdict(0), 1);
        due("the last", full().verdict(11), 12);
        due("no reference yet", ready().verdict(0), REFUSED);
    }

    private static void selectTakesItsRanges() {
        says("SELECTS for a class and a member. (numbers out of range)");
        due("the last member", full().select(1, 40), 40);
        for (int out : outside(1, 16)) {
            due("class " + out, full().select(out, 40), REFUSED);
        }
        for (int out : outside(1, 40)) {
            due("member " + out, full().select(1, out), REFUSED);
        }
        due("no member yet", ready().select(1, 1), REFUSED);
    }

    // Promise 15

    /** Two conflicts: of the host and the loaders 1 and 2, who have the name 11 for themselves. */
    private static LinkAudit disagreeing() {
        LinkAudit x = new LinkAudit();
        x.define(0, 0, OPEN, NONE, 0);
        x.define(0, 11, OPEN, NONE, 0);
        for (int loader = 1; loader <= 2; loader++) {
            x.define(loader, 11, OPEN, NONE, 0);
            x.define(loader, 4, OPEN, 0, 0);
            x.mask(loader, 11, true);
        }
        x.method(1, 0, 11, NUMBER, 0);
        x.method(4, 0, 11, NUMBER, 0);
        x.reference(6, LinkAudit.CALL * 4, 0, 11, NUMBER);
        return x;
    }

    private static void conflictTakesItsRanges() {
        says("the name (0), the loaders (1, 2); REFUSED if there is none, and for others.");
        int[][] want = {{11, 0, 1}, {11, 0, 2}, {11, 1, 2}};
        due("how many", disagreeing().conflicts(), 3);
        for (int k = 0; k < 3; k++) {
            for (int what = 0; what < 3; what++) {
                due("of the conflict " + k + " the " + what, disagreeing().conflict(k, what), want[k][what]);
            }
            for (int what : outside(0, 2)) {
                due("of the conflict " + k + " the " + what, disagreeing().conflict(k, what), REFUSED);
            }
        }
        for (int k : outside(0, 2)) {
            for (int what = -1; what <= 3; what++) {
                due("of the conflict " + k + " the " + what, disagreeing().conflict(k, what), REFUSED);
            }
        }
        for (int what = -1; what <= 3; what++) {
            due("of none", ready().conflict(0, what), REFUSED);
            due("of none, on a new object", new LinkAudit().conflict(0, what), REFUSED);
        }
    }

    // Promise 12

    private static void overridesIsFalseForOtherNumbers() {
        says("false for other numbers too");
        for (int out : outside(1, 3)) {
            holds("method " + out, !disagreeing().overrides(out, 1));
            holds("other " + out, !disagreeing().overrides(2, out));
            holds("both " + out, !disagreeing().overrides(out, out));
        }
        holds("in range", disagreeing().overrides(2, 1));
        holds("no method yet", !ready().overrides(1, 1));
        LinkAudit x = disagreeing();
        x.field(1, 0, 11, 0);
        x.field(4, 0, 11, 0);
        holds("fields", !x.overrides(4, 3));
        holds("a field and a method", !x.overrides(4, 1));
        holds("a method and a field", !x.overrides(2, 3));
    }

    // Promise 17

    private static void countTakesThree() {
        says("Classes (0), members (1), references (2); else REFUSED.");
        LinkAudit x = full();
        due("classes", x.count(0), 16);
        due("members", x.count(1), 40);
        due("references", x.count(2), 12);
        for (int out : outside(0, 2)) {
            due("what " + out, x.count(out), REFUSED);
        }
        for (int what = 0; what < 3; what++) {
            due("of a new object the " + what, new LinkAudit().count(what), 0);
        }
    }

    // The general sentences

    /** The call is FULL with any number of the range, and REFUSED with any other. */
    private static void isTestedFirst(String what, int least, int most, Open call) {
        for (int value = least; value <= most; value++) {
            due(what + " " + value, call.on(full(), value), FULL);
        }
        stillRefusesOutside(what, least, most, call);
    }

    private static void stillRefusesOutside(String what, int least, int most, Open call) {
        for (int value : outside(least, most)) {
            due(what + " " + value, call.on(full(), value), REFUSED);
        }
    }

    private static void rangesAreTestedFirst() {
        says("Numbers out of range are tested first: REFUSED.");
        isTestedFirst("provide: loader", 1, 4, (x, value) -> x.provide(value, 0));
        due("provide: other 0", full().provide(1, 0), FULL);
        stillRefusesOutside("provide: other", 0, 4, (x, value) -> x.provide(1, value));
        isTestedFirst("define: loader", 0, 4, (x, value) -> x.define(value, 11, OPEN, NONE, 0));
        isTestedFirst("define: name", 0, 11, (x, value) -> x.define(4, value, OPEN, NONE, 0));
        due("define: flags 13", full().define(4, 0, 13, NONE, 0), FULL);
        stillRefusesOutside("define: flags", 0, 15, (x, value) -> x.define(4, 0, value, NONE, 0));
        isTestedFirst("define: super", 0, 12, (x, value) -> x.define(4, 0, OPEN, value, 0));
        for (int interfaces : new int[] {0, 1, 4095}) {
            due("define: interfaces " + interfaces, full().define(4, 0, OPEN, NONE, interfaces), FULL);
        }
        stillRefusesOutside("define: interfaces", 0, 4095, (x, value) -> x.define(4, 0, OPEN, NONE, value));
        isTestedFirst("field: owner", 1, 16, (x, value) -> x.field(value, 3, 0, 0));
        isTestedFirst("field: name", 0, 3, (x, value) -> x.field(3, value, 0, 0));
        isTestedFirst("field: type", 0, 12, (x, value) -> x.field(3, 0, value, 0));
        isTestedFirst("field: flags", 0, 7, (x, value) -> x.field(3, 0, 0, value));
        isTestedFirst("method: owner", 1, 16, (x, value) -> x.method(value, 3, 0, 0, 0));
        isTestedFirst("method: name", 0, 3, (x, value) -> x.method(3, value, 0, 0, 0));
        isTestedFirst("method: argument", 0, 12, (x, value) -> x.method(3, 0, value, 0, 0));
        isTestedFirst("method: answer", 0, 12, (x, value) -> x.method(3, 0, 0, value, 0));
        due("method: flags 10", full().method(3, 0, 0, 0, 10), FULL);
        stillRefusesOutside("method: flags", 0, 15, (x, value) -> x.method(3, 0, 0, 0, value));
        isTestedFirst("reference: from", 1, 16, (x, value) -> x.reference(value, 0, 0, 0, 0));
        isTestedFirst("reference: kind", 0, 23, (x, value) -> x.reference(1, value, 0, 0, 0));
        isTestedFirst("reference: class name", 0, 11, (x, value) -> x.reference(1, 0, value, 0, 0));
        isTestedFirst("reference: first", 0, 12, (x, value) -> x.reference(1, 0, 0, value, 0));
        isTestedFirst("reference: second", 0, 12, (x, value) -> x.reference(1, 0, 0, 0, value));
    }

    private static void otherRefusalsAreTestedBeforeFull() {
        says("REFUSED stands before FULL in the promises 2, 4, 5 and 6.");
        for (int loader = 1; loader <= 4; loader++) {
            for (int other = 1; other <= 4; other++) {
                due(other + " is " + loader + " or its provider", full().provide(loader, other), REFUSED);
            }
        }
        due("a name taken", full().define(2, 4, OPEN, NONE, 0), REFUSED);
        due("an interface with a super", full().define(4, 0, OPEN_INTERFACE, 0, 0), REFUSED);
        due("a final interface", full().define(4, 0, OPEN_INTERFACE | LinkAudit.IS_FINAL, NONE, 0), REFUSED);
        due("a like field", full().field(1, 2, 12, 0), REFUSED);
        due("a like method", full().method(1, 0, 0, 0, 0), REFUSED);
        due("an interface's PACKAGE method", full().method(2, 0, 0, 0, LinkAudit.PACKAGE), REFUSED);
        due("an abstract PRIVATE method", full().method(1, 3, 0, 0, 11), REFUSED);
    }

    /** Loaders, classes, members and references with something of each sort of answer, and room for more. */
    private static LinkAudit mixed() {
        LinkAudit x = disagreeing();
        x.provide(3, 1);
        x.define(3, 8, OPEN_INTERFACE | LinkAudit.IS_ABSTRACT, NONE, 0);
        x.define(3, 9, 0, 4, 1 << 8);
        x.define(3, 10, OPEN, 7, 0);
        x.method(7, 1, NUMBER, NUMBER, LinkAudit.ABSTRACT);
        x.method(8, 0, 11, NUMBER, LinkAudit.PROTECTED);
        x.field(7, 2, NUMBER, LinkAudit.STATIC);
        x.reference(8, LinkAudit.FIELD_STATIC * 4 + 2, 9, NUMBER, 0);
        x.reference(9, LinkAudit.NEW, 9, 0, 0);
        x.reference(8, LinkAudit.NEW, 8, 0, 0);
        return x;
    }

    /** What an object answers to some 200 calls, so that two stories of one object fit into its 512. */
    private static String story(LinkAudit x) {
        StringBuilder text = new StringBuilder();
        int classes = x.count(0);
        int references = x.count(2);
        int conflicts = x.conflicts();
        text.append(classes).append(' ').append(x.count(1)).append(' ').append(references).append(' ');
        text.append(x.gaps()).append(' ').append(conflicts).append(' ').append(x.faults()).append(' ');
        for (int loader = 0; loader <= 4; loader++) {
            for (int name = 0; name < 12; name++) {
                text.append(x.find(loader, name)).append(' ');
            }
        }
        for (int number = 1; number <= classes; number++) {
            text.append(x.load(number)).append(' ');
        }
        for (int reference = 0; reference < references; reference++) {
            text.append(x.verdict(reference)).append(' ');
        }
        for (int member = 1; member <= 6; member++) {
            for (int number = 1; number <= 9; number++) {
                text.append(x.select(number, member)).append(' ');
            }
            for (int other = 1; other <= 6; other++) {
                text.append(x.overrides(member, other)).append(' ');
            }
        }
        for (int k = 0; k < conflicts; k++) {
            text.append(x.conflict(k, 0)).append(x.conflict(k, 1)).append(x.conflict(k, 2)).append(' ');
        }
        return text.toString();
    }

    private static String nextNumbers(LinkAudit x) {
        StringBuilder text = new StringBuilder();
        for (int loader = 1; loader <= 4; loader++) {
            for (int other = 0; other <= 4; other++) {
                text.append(x.provide(loader, other)).append(' ');
            }
        }
        text.append(x.define(4, 3, OPEN, NONE, 0)).append(' ');
        text.append(x.field(1, 3, 3, 0)).append(' ');
        text.append(x.method(1, 3, 3, 3, 0)).append(' ');
        text.append(x.reference(1, LinkAudit.CALL * 4 + 3, 3, 3, 3)).append(' ');
        text.append(x.count(0)).append(' ').append(x.count(1)).append(' ').append(x.count(2));
        return text.toString();
    }

    private static void changesNothing(String what, int answer, boolean isFull, Closed call) {
        LinkAudit plain = isFull ? full() : mixed();
        LinkAudit x = isFull ? full() : mixed();
        due(what, call.on(x), answer);
        holds(what + " changes nothing", story(x).equals(story(plain)));
        holds(what + " takes no room", nextNumbers(x).equals(nextNumbers(plain)));
        // Also when what follows from the state has been worked out before the call.
        LinkAudit asked = isFull ? full() : mixed();
        String before = story(asked);
        due(what + ", later", call.on(asked), answer);
        holds(what + " changes nothing, later", story(asked).equals(before));
    }

    private static void refusedChangesNothing() {
        says("A call that answers REFUSED or FULL changes nothing. (REFUSED)");
        Closed[] calls = {
            x -> x.provide(0, 1), x -> x.provide(1, 1), x -> x.provide(3, 1), x -> x.provide(3, 5),
            x -> x.provide(3, -1), x -> x.provide(5, 1), x -> x.provide(-1, 1),
            x -> x.mask(0, 11, true), x -> x.mask(0, 0, true), x -> x.mask(5, 11, true), x -> x.mask(-1, 11, true),
            x -> x.mask(1, 12, true), x -> x.mask(1, -1, true), x -> x.mask(1, 32, true), x -> x.mask(2, 43, false),
            x -> x.mask(0, 11, false), x -> x.mask(2, -21, false),
            x -> x.define(1, 4, OPEN, NONE, 0), x -> x.define(3, 8, OPEN_INTERFACE, NONE, 0),
            x -> x.define(0, 0, OPEN | LinkAudit.IS_FINAL, NONE, 0), x -> x.define(4, 3, OPEN_INTERFACE, 0, 0),
            x -> x.define(4, 3, OPEN_INTERFACE | LinkAudit.IS_FINAL, NONE, 0), x -> x.define(5, 3, OPEN, NONE, 0),
            x -> x.define(-1, 3, OPEN, NONE, 0), x -> x.define(4, 12, OPEN, NONE, 0),
            x -> x.define(4, -1, OPEN, NONE, 0), x -> x.define(4, 3, 16, NONE, 0), x -> x.define(4, 3, -1, NONE, 0),
            x -> x.define(4, 3, OPEN, 13, 0), x -> x.define(4, 3, OPEN, -1, 0), x -> x.define(4, 3, OPEN, NONE, 4096),
            x -> x.define(4, 3, OPEN, NONE, -1),
            x -> x.field(7, 2, NUMBER, 0), x -> x.field(0, 3, 3, 0), x -> x.field(10, 3, 3, 0),
            x -> x.field(1, 4, 3, 0), x -> x.field(1, -1, 3, 0), x -> x.field(1, 3, 13, 0), x -> x.field(1, 3, -1, 0),
            x -> x.field(1, 3, 3, 8), x -> x.field(1, 3, 3, -1),
            x -> x.method(1, 0, 11, NUMBER, LinkAudit.PRIVATE), x -> x.method(7, 3, 3, 3, LinkAudit.PROTECTED),
            x -> x.method(7, 3, 3, 3, LinkAudit.PACKAGE), x -> x.method(1, 3, 3, 3, 11),
            x -> x.method(1, 3, 3, 3, 12), x -> x.method(0, 3, 3, 3, 0), x -> x.method(10, 3, 3, 3, 0),
            x -> x.method(1, 4, 3, 3, 0), x -> x.method(1, -1, 3, 3, 0), x -> x.method(1, 3, 13, 3, 0),
            x -> x.method(1, 3, -1, 3, 0), x -> x.method(1, 3, 3, 13, 0), x -> x.method(1, 3, 3, -1, 0),
            x -> x.method(1, 3, 3, 3, 16), x -> x.method(1, 3, 3, 3, -1),
            x -> x.reference(0, 0, 9, 0, 0), x -> x.reference(10, 0, 9, 0, 0), x -> x.reference(1, 24, 9, 0, 0),
            x -> x.reference(1, -1, 9, 0, 0), x -> x.reference(1, 0, 12, 0, 0), x -> x.reference(1, 0, -1, 0, 0),
            x -> x.reference(1, 0, 9, 13, 0), x -> x.reference(1, 0, 9, -1, 0), x -> x.reference(1, 0, 9, 0, 13),
            x -> x.reference(1, 0, 9, 0, -1),
            x -> x.find(5, 0), x -> x.find(0, 12), x -> x.load(0), x -> x.load(10), x -> x.verdict(-1),
            x -> x.verdict(4), x -> x.select(0, 1), x -> x.select(1, 0), x -> x.select(7, 3), x -> x.select(9, 1),
            x -> x.conflict(9, 0), x -> x.conflict(0, 3), x -> x.count(3),
        };
        for (int i = 0; i < calls.length; i++) {
            changesNothing("refused call " + i, REFUSED, false, calls[i]);
        }
    }

    private static void fullChangesNothing() {
        says("A call that answers REFUSED or FULL changes nothing. (FULL)");
        Closed[] calls = {
            x -> x.provide(1, 0), x -> x.provide(4, 0), x -> x.define(0, 11, OPEN, NONE, 0),
            x -> x.define(0, 0, OPEN, NONE, 0), x -> x.define(4, 0, OPEN, NONE, 0), x -> x.field(1, 3, 0, 0),
            x -> x.field(16, 0, 0, 0), x -> x.method(1, 0, 0, 1, 0), x -> x.method(16, 0, 0, 0, LinkAudit.ABSTRACT),
            x -> x.reference(1, LinkAudit.NEW, 11, 0, 0), x -> x.reference(16, LinkAudit.CALL * 4, 0, 0, 0),
        };
        for (int i = 0; i < calls.length; i++) {
            changesNothing("full call " + i, FULL, true, calls[i]);
        }
    }

    private static void anObjectServes512Calls() {
        says("An object is used for at most 512 calls after it has been made; what later calls answer is free.");
        Closed[] last = {
            x -> x.provide(1, 0), x -> x.mask(1, 0, true), x -> x.define(0, 11, OPEN, NONE, 0),
            x -> x.find(1, 10), x -> x.load(16), x -> x.verdict(11), x -> x.select(1, 40),
            x -> x.overrides(40, 40) ? 1 : 0, x -> x.gaps(), x -> x.conflicts(), x -> x.conflict(0, 0),
            x -> x.faults(), x -> x.count(1),
        };
        int[] want = {FULL, 0, FULL, 1, 16, 12, 40, 0, 0, 0, REFUSED, 0, 40};
        for (int i = 0; i < last.length; i++) {
            LinkAudit x = full();
            int calls = 80;
            while (calls < 511) {
                // Changes and questions in turn: all has to be worked out anew each time.
                due("call " + calls, calls % 2 == 0 ? x.mask(4, calls % 12, true) : x.faults(), 0);
                calls++;
            }
            due("the 512th call, " + i, last[i].on(x), want[i]);
        }
        changesCountUpToThe512thCall();
    }

    /** A mask goes on and off: each time the plugin's class has another super, or none that is fit. */
    private static void changesCountUpToThe512thCall() {
        LinkAudit x = new LinkAudit();
        x.define(0, 0, OPEN, NONE, 0);
        x.define(1, 0, OPEN | LinkAudit.IS_FINAL, NONE, 0);
        x.define(1, 1, OPEN, 0, 0);
        x.reference(3, LinkAudit.NEW, 0, 0, 0);
        for (int calls = 4; calls < 512; calls += 4) {
            due("call " + (calls + 1), x.mask(1, 0, true), 0);
            due("call " + (calls + 2), x.load(3), LinkAudit.INCOMPATIBLE);
            due("call " + (calls + 3), x.mask(1, 0, false), 0);
            due("call " + (calls + 4), calls % 8 == 0 ? x.load(3) : x.verdict(0), calls % 8 == 0 ? 3 : 1);
        }
    }
}
