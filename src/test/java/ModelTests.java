import java.util.ArrayList;
import java.util.Arrays;
import java.util.List;
import java.util.Random;
import java.util.Set;
import java.util.TreeSet;

/**
 * Many runs of calls, each answered by LinkAudit and by a second program that follows the words of
 * the document one by one, with lists and plain recursion. The seeds are fixed: every run is the same.
 */
public final class ModelTests {
    private static final int RUNS = 3000;
    private static final int LONGEST_REPORT = 20;
    private static int wrong = 0;
    private static final int[] seen = new int[12];
    private static int gapsSeen = 0;
    private static int conflictsSeen = 0;
    private static int overridesSeen = 0;

    public static void main(String[] args) {
        for (int seed = 0; seed < RUNS && wrong < LONGEST_REPORT; seed++) {
            new Run(seed).go();
        }
        if (wrong == 0) {
            everyAnswerWasSeen();
        }
        System.out.println(wrong == 0 ? "program and model agree" : wrong + " answers differ");
        if (wrong != 0) {
            System.exit(1);
        }
    }

    // A comparison that never meets an answer does not test it.
    private static void everyAnswerWasSeen() {
        for (int code = 1; code <= 10; code++) {
            if (seen[code] == 0) {
                wrong++;
                System.out.println("no run answered " + -code);
            }
        }
        if (gapsSeen == 0 || conflictsSeen == 0 || overridesSeen == 0) {
            wrong++;
            System.out.println("no run had gaps, conflicts or overriding: " + gapsSeen + ", " + conflictsSeen + ", "
                + overridesSeen);
        }
    }

    private static final class ModelClass {
        int number;
        int loader;
        int name;
        boolean isPublic;
        boolean isFinal;
        boolean isAbstract;
        boolean isInterface;
        int superName;
        List<Integer> interfaceNames = new ArrayList<>();
    }

    private static final class ModelMember {
        int number;
        ModelClass owner;
        boolean isMethod;
        int name;
        int first;
        int second;
        int access;
        boolean isStatic;
        boolean isAbstract;

        boolean like(ModelMember other) {
            return isMethod == other.isMethod && name == other.name && first == other.first
                && second == other.second;
        }

        boolean isVirtual() {
            return isMethod && !isStatic && access != LinkAudit.PRIVATE;
        }
    }

    private static final class ModelReference {
        ModelClass from;
        int kind;
        int name;
        int className;
        int first;
        int second;
    }

    private static final class Model {
        final List<List<Integer>> providers = new ArrayList<>();
        final boolean[][] masked = new boolean[5][12];
        final List<ModelClass> classes = new ArrayList<>();
        final List<ModelMember> members = new ArrayList<>();
        final List<ModelReference> references = new ArrayList<>();

        Model() {
            for (int i = 0; i < 5; i++) {
                providers.add(new ArrayList<>());
            }
        }

        static boolean out(int value, int least, int most) {
            return value < least || value > most;
        }

        int provide(int loader, int other) {
            if (out(loader, 1, 4) || out(other, 0, 4)) {
                return -1;
            }
            List<Integer> row = providers.get(loader);
            if (loader == other || row.contains(other)) {
                return -1;
            }
            if (row.size() == 3) {
                return -2;
            }
            row.add(other);
            return row.size();
        }

        int mask(int loader, int name, boolean on) {
            if (out(loader, 1, 4) || out(name, 0, 11)) {
                return -1;
            }
            masked[loader][name] = on;
            return 0;
        }

        int define(int loader, int name, int flags, int superName, int interfaces) {
            if (out(loader, 0, 4) || out(name, 0, 11) || out(flags, 0, 15) || out(superName, 0, 12)
                || out(interfaces, 0, 4095)) {
                return -1;
            }
            ModelClass made = new ModelClass();
            made.loader = loader;
            made.name = name;
            made.isPublic = flags % 2 == 1;
            made.isFinal = flags / 2 % 2 == 1;
            made.isInterface = flags / 8 == 1;
            made.isAbstract = flags / 4 % 2 == 1 || made.isInterface;
            made.superName = superName;
            if (made.isInterface && (superName != 12 || made.isFinal) || own(loader, name) != null) {
                return -1;
            }
            if (classes.size() == 16) {
                return -2;
            }
            for (int i = 0; i < 12; i++) {
                if (interfaces / (1 << i) % 2 == 1) {
                    made.interfaceNames.add(i);
                }
            }
            classes.add(made);
            made.number = classes.size();
            return made.number;
        }

        int add(ModelMember made, int owner, int flags) {
            made.owner = classes.get(owner - 1);
            made.access = flags % 4;
            made.isStatic = flags / 4 % 2 == 1;
            made.isAbstract = flags / 8 == 1;
            if (made.isMethod && made.owner.isInterface && made.access != 0 && made.access != 3) {
                return -1;
            }
            if (made.isAbstract && (made.access == 3 || made.isStatic)) {
                return -1;
            }
            for (ModelMember member : members) {
                if (member.owner == made.owner && member.like(made)) {
                    return -1;
                }
            }
            if (members.size() == 40) {
                return -2;
            }
            members.add(made);
            made.number = members.size();
            return made.number;
        }

        int field(int owner, int name, int type, int flags) {
            if (out(owner, 1, classes.size()) || out(name, 0, 3) || out(type, 0, 12) || out(flags, 0, 7)) {
                return -1;
            }
            ModelMember made = new ModelMember();
            made.name = name;
            made.first = type;
            made.second = 12;
            return add(made, owner, flags);
        }

        int method(int owner, int name, int argument, int answer, int flags) {
            if (out(owner, 1, classes.size()) || out(name, 0, 3) || out(argument, 0, 12) || out(answer, 0, 12)
                || out(flags, 0, 15)) {
                return -1;
            }
            ModelMember made = new ModelMember();
            made.isMethod = true;
            made.name = name;
            made.first = argument;
            made.second = answer;
            return add(made, owner, flags);
        }

        int reference(int from, int kind, int className, int first, int second) {
            if (out(from, 1, classes.size()) || out(kind, 0, 23) || out(className, 0, 11) || out(first, 0, 12)
                || out(second, 0, 12)) {
                return -1;
            }
            if (references.size() == 12) {
                return -2;
            }
            ModelReference made = new ModelReference();
            made.from = classes.get(from - 1);
            made.kind = kind / 4;
            made.name = kind % 4;
            made.className = className;
            made.first = first;
            made.second = second;
            references.add(made);
            return references.size() - 1;
        }

        ModelClass own(int loader, int name) {
            for (ModelClass each : classes) {
                if (each.loader == loader && each.name == name) {
                    return each;
                }
            }
            return null;
        }

        ModelClass found(int loader, int name) {
            if (!masked[loader][name]) {
                if (own(0, name) != null) {
                    return own(0, name);
                }
                for (int provider : providers.get(loader)) {
                    if (own(provider, name) != null) {
                        return own(provider, name);
                    }
                }
            }
            return own(loader, name);
        }

        int find(int loader, int name) {
            if (out(loader, 0, 4) || out(name, 0, 11)) {
                return -1;
            }
            ModelClass found = found(loader, name);
            return found == null ? -3 : found.number;
        }

        static boolean neighbours(ModelClass one, ModelClass other) {
            return one.loader == other.loader && one.name / 4 == other.name / 4;
        }

        static boolean mayUse(ModelClass one, ModelClass other) {
            return other.isPublic || neighbours(one, other);
        }

        int loadCode(ModelClass asked, List<ModelClass> loading) {
            if (loading.contains(asked)) {
                return -4;
            }
            List<ModelClass> more = new ArrayList<>(loading);
            more.add(asked);
            if (asked.superName != 12) {
                ModelClass above = found(asked.loader, asked.superName);
                if (above == null) {
                    return -3;
                }
                int code = loadCode(above, more);
                if (code < 0) {
                    return code;
                }
                if (above.isInterface || above.isFinal) {
                    return -5;
                }
                if (!mayUse(asked, above)) {
                    return -6;
                }
            }
            for (int name : asked.interfaceNames) {
                ModelClass above = found(asked.loader, name);
                if (above == null) {
                    return -3;
                }
                int code = loadCode(above, more);
                if (code < 0) {
                    return code;
                }
                if (!above.isInterface) {
                    return -5;
                }
                if (!mayUse(asked, above)) {
                    return -6;
                }
            }
            return asked.number;
        }

        int code(ModelClass asked) {
            return loadCode(asked, new ArrayList<>());
        }

        int load(int number) {
            return out(number, 1, classes.size()) ? -1 : code(classes.get(number - 1));
        }

        ModelClass superOf(ModelClass of) {
            return of.superName == 12 ? null : found(of.loader, of.superName);
        }

        List<ModelClass> superclasses(ModelClass of) {
            List<ModelClass> row = new ArrayList<>();
            for (ModelClass each = of; each != null; each = superOf(each)) {
                row.add(each);
            }
            return row;
        }

        Set<Integer> superinterfaces(ModelClass of) {
            Set<Integer> set = new TreeSet<>();
            for (int name : of.interfaceNames) {
                ModelClass above = found(of.loader, name);
                set.add(above.number);
                set.addAll(superinterfaces(above));
            }
            if (superOf(of) != null) {
                set.addAll(superinterfaces(superOf(of)));
            }
            return set;
        }

        boolean properSubclass(ModelClass one, ModelClass other) {
            return one != other && superclasses(one).contains(other);
        }

        boolean mayReach(ModelClass user, ModelMember member) {
            ModelClass owner = member.owner;
            return member.access == 0
                || member.access == 1 && (neighbours(user, owner) || superclasses(user).contains(owner))
                || member.access == 2 && neighbours(user, owner)
                || member.access == 3 && user == owner;
        }

        ModelMember ownLike(ModelClass of, ModelMember wanted) {
            for (ModelMember member : members) {
                if (member.owner == of && member.like(wanted)) {
                    return member;
                }
            }
            return null;
        }

        ModelMember findField(ModelClass in, ModelMember wanted) {
            if (ownLike(in, wanted) != null) {
                return ownLike(in, wanted);
            }
            for (int name : in.interfaceNames) {
                ModelMember got = findField(found(in.loader, name), wanted);
                if (got != null) {
                    return got;
                }
            }
            return superOf(in) == null ? null : findField(superOf(in), wanted);
        }

        List<ModelMember> offered(ModelClass to, ModelMember wanted) {
            List<ModelMember> row = new ArrayList<>();
            Set<Integer> from = superinterfaces(to);
            for (ModelMember member : members) {
                if (member.like(wanted) && member.isVirtual() && from.contains(member.owner.number)) {
                    row.add(member);
                }
            }
            return row;
        }

        List<ModelMember> mostSpecificWithCode(List<ModelMember> offered) {
            List<ModelMember> row = new ArrayList<>();
            for (ModelMember member : offered) {
                boolean most = true;
                for (ModelMember other : offered) {
                    if (other != member && superinterfaces(other.owner).contains(member.owner.number)) {
                        most = false;
                    }
                }
                if (most && !member.isAbstract) {
                    row.add(member);
                }
            }
            return row;
        }

        ModelMember findMethod(ModelClass in, ModelMember wanted) {
            for (ModelClass each : superclasses(in)) {
                if (ownLike(each, wanted) != null) {
                    return ownLike(each, wanted);
                }
            }
            List<ModelMember> offered = offered(in, wanted);
            List<ModelMember> best = mostSpecificWithCode(offered);
            if (best.size() == 1) {
                return best.get(0);
            }
            return offered.isEmpty() ? null : offered.get(0);
        }

        int verdictOf(ModelReference reference) {
            ModelClass user = reference.from;
            if (code(user) < 0) {
                return -10;
            }
            ModelClass found = found(user.loader, reference.className);
            if (found == null) {
                return -3;
            }
            if (code(found) < 0) {
                return code(found);
            }
            if (!mayUse(user, found)) {
                return -6;
            }
            if (reference.kind == 0) {
                return found.isAbstract ? -8 : found.number;
            }
            if (reference.kind == 3 && found.isInterface || reference.kind == 5 && !found.isInterface) {
                return -5;
            }
            ModelMember wanted = new ModelMember();
            wanted.isMethod = reference.kind >= 3;
            wanted.name = reference.name;
            wanted.first = reference.first;
            wanted.second = wanted.isMethod ? reference.second : 12;
            ModelMember got = wanted.isMethod ? findMethod(found, wanted) : findField(found, wanted);
            if (got == null) {
                return -7;
            }
            if (!mayReach(user, got)) {
                return -6;
            }
            boolean wantsStatic = reference.kind == 2 || reference.kind == 4;
            return got.isStatic == wantsStatic ? got.number : -5;
        }

        int verdict(int reference) {
            return out(reference, 0, references.size() - 1) ? -1 : verdictOf(references.get(reference));
        }

        boolean covers(ModelMember one, ModelMember other) {
            if (one == other || !one.like(other) || !one.isVirtual() || !other.isVirtual()) {
                return false;
            }
            if (other.access == 0 || other.access == 1 || neighbours(one.owner, other.owner)) {
                return true;
            }
            for (ModelMember between : members) {
                if (properSubclass(one.owner, between.owner) && properSubclass(between.owner, other.owner)
                    && covers(one, between) && covers(between, other)) {
                    return true;
                }
            }
            return false;
        }

        boolean isSuper(ModelClass of, ModelClass above) {
            return properSubclass(of, above) || superinterfaces(of).contains(above.number);
        }

        boolean isOverriding(ModelMember one, ModelMember other) {
            return one.isMethod && other.isMethod && code(one.owner) > 0 && code(other.owner) > 0
                && one.like(other) && isSuper(one.owner, other.owner) && covers(one, other);
        }

        boolean overrides(int method, int other) {
            return !out(method, 1, members.size()) && !out(other, 1, members.size())
                && isOverriding(members.get(method - 1), members.get(other - 1));
        }

        int selected(ModelClass receiver, ModelMember asked) {
            if (asked.access == 3) {
                return asked.number;
            }
            ModelMember got = null;
            for (ModelClass each : superclasses(receiver)) {
                for (ModelMember member : members) {
                    if (got == null && member.owner == each && (member == asked || covers(member, asked))) {
                        got = member;
                    }
                }
            }
            if (got == null) {
                List<ModelMember> best = mostSpecificWithCode(offered(receiver, asked));
                if (best.size() != 1) {
                    return best.isEmpty() ? -9 : -5;
                }
                got = best.get(0);
            }
            if (got.isAbstract) {
                return -9;
            }
            return asked.owner.isInterface && got.access != 0 ? -6 : got.number;
        }

        int select(int number, int member) {
            if (out(number, 1, classes.size()) || out(member, 1, members.size())) {
                return -1;
            }
            ModelClass receiver = classes.get(number - 1);
            ModelMember asked = members.get(member - 1);
            if (code(receiver) < 0 || receiver.isInterface || !asked.isMethod || asked.isStatic) {
                return -1;
            }
            if (receiver != asked.owner && !isSuper(receiver, asked.owner)) {
                return -1;
            }
            return selected(receiver, asked);
        }

        int gaps() {
            int gaps = 0;
            for (ModelClass receiver : classes) {
                if (!receiver.isAbstract && code(receiver) > 0) {
                    for (ModelMember asked : members) {
                        if (asked.isVirtual() && isSuper(receiver, asked.owner) && selected(receiver, asked) < 0) {
                            gaps++;
                        }
                    }
                }
            }
            return gaps;
        }

        List<int[]> conflictRows() {
            boolean[][][] must = new boolean[13][5][5];
            for (ModelReference reference : references) {
                int got = verdictOf(reference);
                if (got > 0 && reference.kind != 0) {
                    require(must, members.get(got - 1), reference.from);
                }
            }
            for (ModelMember one : members) {
                for (ModelMember other : members) {
                    if (isOverriding(one, other)) {
                        require(must, other, one.owner);
                    }
                }
            }
            List<int[]> rows = new ArrayList<>();
            for (int name = 0; name < 12; name++) {
                boolean[][] on = must[name];
                for (int via = 0; via < 5; via++) {
                    for (int one = 0; one < 5; one++) {
                        for (int other = 0; other < 5; other++) {
                            on[one][other] |= on[one][via] && on[via][other];
                        }
                    }
                }
                for (int one = 0; one < 5; one++) {
                    for (int other = one + 1; other < 5; other++) {
                        ModelClass mine = found(one, name);
                        ModelClass theirs = found(other, name);
                        if (on[one][other] && mine != null && theirs != null && mine != theirs) {
                            rows.add(new int[] {name, one, other});
                        }
                    }
                }
            }
            return rows;
        }

        void require(boolean[][][] must, ModelMember member, ModelClass user) {
            for (int type : new int[] {member.first, member.second}) {
                must[type][member.owner.loader][user.loader] = true;
                must[type][user.loader][member.owner.loader] = true;
            }
        }

        int conflict(int k, int what) {
            List<int[]> rows = conflictRows();
            return out(k, 0, rows.size() - 1) || out(what, 0, 2) ? -1 : rows.get(k)[what];
        }

        int faults() {
            int codes = 0;
            for (ModelReference reference : references) {
                codes += verdictOf(reference) < 0 ? 1 : 0;
            }
            return codes + gaps() + conflictRows().size();
        }

        int count(int what) {
            int[] counts = {classes.size(), members.size(), references.size()};
            return out(what, 0, 2) ? -1 : counts[what];
        }
    }

    /** A call by its name and arguments (a boolean is 1 or 0). */
    private static final class Call {
        final String name;
        final int[] with;

        Call(String name, int[] with) {
            this.name = name;
            this.with = with;
        }

        boolean builds() {
            return List.of("provide", "mask", "define", "field", "method", "reference").contains(name);
        }

        int on(LinkAudit x) {
            switch (name) {
                case "provide": return x.provide(with[0], with[1]);
                case "mask": return x.mask(with[0], with[1], with[2] == 1);
                case "define": return x.define(with[0], with[1], with[2], with[3], with[4]);
                case "field": return x.field(with[0], with[1], with[2], with[3]);
                case "method": return x.method(with[0], with[1], with[2], with[3], with[4]);
                case "reference": return x.reference(with[0], with[1], with[2], with[3], with[4]);
                case "find": return x.find(with[0], with[1]);
                case "load": return x.load(with[0]);
                case "verdict": return x.verdict(with[0]);
                case "select": return x.select(with[0], with[1]);
                case "overrides": return x.overrides(with[0], with[1]) ? 1 : 0;
                case "gaps": return x.gaps();
                case "conflicts": return x.conflicts();
                case "conflict": return x.conflict(with[0], with[1]);
                case "faults": return x.faults();
                default: return x.count(with[0]);
            }
        }

        int on(Model x) {
            switch (name) {
                case "provide": return x.provide(with[0], with[1]);
                case "mask": return x.mask(with[0], with[1], with[2] == 1);
                case "define": return x.define(with[0], with[1], with[2], with[3], with[4]);
                case "field": return x.field(with[0], with[1], with[2], with[3]);
                case "method": return x.method(with[0], with[1], with[2], with[3], with[4]);
                case "reference": return x.reference(with[0], with[1], with[2], with[3], with[4]);
                case "find": return x.find(with[0], with[1]);
                case "load": return x.load(with[0]);
                case "verdict": return x.verdict(with[0]);
                case "select": return x.select(with[0], with[1]);
                case "overrides": return x.overrides(with[0], with[1]) ? 1 : 0;
                case "gaps": return x.gaps();
                case "conflicts": return x.conflictRows().size();
                case "conflict": return x.conflict(with[0], with[1]);
                case "faults": return x.faults();
                default: return x.count(with[0]);
            }
        }

        String text() {
            return name + Arrays.toString(with);
        }
    }

    /** One run: mostly sound calls that build tall hierarchies, some of them wild. */
    private static final class Run {
        final int seed;
        final Random random;
        final Model model = new Model();
        final List<Call> built = new ArrayList<>();
        final int loaders;
        final int types;
        // Some runs have few interfaces and types, so that long chains of like methods come about.
        final boolean tall;
        final StringBuilder story = new StringBuilder();
        LinkAudit program = new LinkAudit();
        int callsOfProgram = 0;

        Run(int seed) {
            this.seed = seed;
            random = new Random(seed);
            tall = rarely(3);
            loaders = 1 + random.nextInt(tall ? 2 : 5);
            types = 1 + random.nextInt(3);
        }

        boolean rarely(int times) {
            return random.nextInt(times) == 0;
        }

        /** Mostly from least to most, at times just outside or far out. */
        int wild(int least, int most) {
            if (rarely(60)) {
                int[] others = {least - 1, most + 1, Integer.MIN_VALUE, Integer.MAX_VALUE, -64, 64};
                return others[random.nextInt(others.length)];
            }
            return least + random.nextInt(most - least + 1);
        }

        int type() {
            return rarely(3) || tall && !rarely(10) ? 12 : random.nextInt(types);
        }

        /** Loaders that ask one another, and have classes of their own for the types of members. */
        void spread() {
            for (int loader = 1; loader < loaders; loader++) {
                for (int i = random.nextInt(4); i > 0; i--) {
                    call("provide", loader, random.nextInt(loaders));
                }
            }
            for (int i = 2 + random.nextInt(6); i > 0; i--) {
                int loader = random.nextInt(loaders);
                int type = random.nextInt(types);
                call("define", loader, type, 1, 12, 0);
                call("mask", loader, type, 1);
            }
        }

        void go() {
            if (rarely(2)) {
                spread();
            }
            for (int i = 0; i < 110 && wrong < LONGEST_REPORT; i++) {
                build();
                if (rarely(4)) {
                    ask();
                }
            }
            askAll();
        }

        void build() {
            int what = random.nextInt(20);
            if (what < 6) {
                define();
            } else if (what < 13) {
                member();
            } else if (what < 15) {
                reference();
            } else if (what < 17) {
                call("provide", wild(1, 4), wild(0, 4));
            } else if (what < 18) {
                call("mask", wild(1, 4), wild(0, 11), random.nextInt(2));
            }
        }

        /** Mostly the name of a class that the loader finds and that is of use there. */
        int foundName(int loader, boolean wantsInterface, int otherwise) {
            List<Integer> names = new ArrayList<>();
            for (int name = 0; name < 12; name++) {
                ModelClass each = model.find(loader, name) > 0 ? model.found(loader, name) : null;
                if (each != null && each.isInterface == wantsInterface && (rarely(6) || isOfUse(each, loader))) {
                    names.add(name);
                }
            }
            return names.isEmpty() || rarely(25) ? otherwise : names.get(random.nextInt(names.size()));
        }

        boolean isOfUse(ModelClass each, int loader) {
            return !each.isFinal && (each.isPublic || each.loader == loader) && model.code(each) > 0;
        }

        void define() {
            int loader = rarely(40) ? wild(0, 4) : random.nextInt(loaders);
            int name = wild(0, 11);
            int flags = (rarely(6) ? 0 : 1) + (rarely(8) ? 2 : 0) + (rarely(4) ? 4 : 0) + (rarely(3) ? 8 : 0);
            if ((flags & 8) != 0 && !rarely(10)) {
                flags &= ~2;
            }
            if (tall && !rarely(10)) {
                flags = 1;
            }
            boolean alone = (flags & 8) != 0 ? !rarely(10) : rarely(tall ? 20 : 4);
            int superName = alone ? 12 : foundName(loader, false, wild(0, 12));
            int interfaces = 0;
            for (int i = random.nextInt(4); i > 0; i--) {
                int chosen = foundName(loader, true, 12);
                interfaces |= chosen == 12 ? 0 : 1 << chosen;
            }
            call("define", loader, name, flags, superName, rarely(25) ? wild(0, 4095) : interfaces);
        }

        void member() {
            int owner = wild(1, Math.max(1, model.classes.size()));
            int name = rarely(3) ? wild(0, 3) : 0;
            int first = rarely(30) ? wild(0, 12) : type();
            if (rarely(4)) {
                call("field", owner, name, first, wild(0, 7));
                return;
            }
            int second = rarely(30) ? wild(0, 12) : 12;
            int flags = rarely(4) ? wild(0, 15) : random.nextInt(3) + (rarely(4) ? 8 : 0);
            boolean known = owner >= 1 && owner <= model.classes.size();
            if (known && model.classes.get(owner - 1).isInterface && !rarely(8)) {
                flags = rarely(6) ? 3 : rarely(8) ? 4 : rarely(2) ? 8 : 0;
            }
            call("method", owner, name, first, second, flags);
        }

        void reference() {
            int from = wild(1, Math.max(1, model.classes.size()));
            if (model.members.isEmpty() || rarely(4)) {
                int kind = rarely(2) ? LinkAudit.NEW : wild(0, 23);
                call("reference", from, kind, wild(0, 11), wild(0, 12), wild(0, 12));
                return;
            }
            ModelMember aim = model.members.get(random.nextInt(model.members.size()));
            boolean known = from >= 1 && from <= model.classes.size();
            int loader = known ? model.classes.get(from - 1).loader : 0;
            int className = rarely(2) ? aim.owner.name : foundName(loader, aim.owner.isInterface, aim.owner.name);
            int kind = aim.isStatic ? LinkAudit.FIELD_STATIC : LinkAudit.FIELD;
            if (aim.isMethod) {
                int dynamic = aim.owner.isInterface ? LinkAudit.CALL_INTERFACE : LinkAudit.CALL;
                kind = aim.isStatic ? LinkAudit.CALL_STATIC : dynamic;
            }
            int mixed = rarely(6) ? 1 + random.nextInt(5) : kind;
            call("reference", from, mixed * 4 + aim.name, className, aim.first, aim.second);
        }

        void ask() {
            int number = wild(1, Math.max(1, model.classes.size()));
            int member = wild(1, Math.max(1, model.members.size()));
            int other = wild(1, Math.max(1, model.members.size()));
            switch (random.nextInt(10)) {
                case 0: call("find", wild(0, 4), wild(0, 11)); break;
                case 1: call("load", number); break;
                case 2: call("verdict", wild(0, Math.max(0, model.references.size() - 1))); break;
                case 3: call("select", number, member); break;
                case 4: call("overrides", member, other); break;
                case 5: call("gaps"); break;
                case 6: call("conflicts"); break;
                case 7: call("conflict", 0, wild(0, 2)); break;
                case 8: call("faults"); break;
                default: call("count", wild(0, 2)); break;
            }
        }

        void askAll() {
            for (int number = 0; number <= model.classes.size() + 1; number++) {
                call("load", number);
                for (int member = 0; member <= model.members.size() + 1; member++) {
                    call("select", number, member);
                }
            }
            for (int reference = -1; reference <= model.references.size(); reference++) {
                call("verdict", reference);
            }
            for (int method = 0; method <= model.members.size() + 1; method++) {
                for (int other = 0; other <= model.members.size() + 1; other++) {
                    overridesSeen += call("overrides", method, other);
                }
            }
            for (int loader = -1; loader <= 5; loader++) {
                for (int name = -1; name <= 12; name++) {
                    call("find", loader, name);
                }
            }
            gapsSeen += call("gaps");
            int conflicts = call("conflicts");
            conflictsSeen += conflicts;
            for (int k = -1; k <= conflicts; k++) {
                for (int what = -1; what <= 3; what++) {
                    call("conflict", k, what);
                }
            }
            call("faults");
            for (int what = -1; what <= 3; what++) {
                call("count", what);
            }
        }

        /** An object is good for 512 calls: then another one, built alike, goes on. */
        void renewProgram() {
            callsOfProgram++;
            if (callsOfProgram > 512) {
                program = new LinkAudit();
                for (Call step : built) {
                    step.on(program);
                }
                callsOfProgram = built.size() + 1;
            }
        }

        int call(String name, int... with) {
            Call call = new Call(name, with);
            renewProgram();
            int want = call.on(model);
            int got = call.on(program);
            if (call.builds()) {
                built.add(call);
                story.append("  ").append(call.text()).append(" = ").append(want).append('\n');
            }
            if (want < 0) {
                seen[-want]++;
            }
            if (got != want) {
                wrong++;
                System.out.println("seed " + seed + ": " + call.text() + " answered " + got + ", due is " + want);
                if (wrong == 1) {
                    System.out.print(story);
                }
            }
            return want;
        }
    }
}
