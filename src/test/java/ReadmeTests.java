import java.io.IOException;
import java.nio.file.Files;
import java.nio.file.Path;
import java.util.ArrayList;
import java.util.List;

/** The example of README.md, line by line: each call answers what the line says. Runs in the project's directory. */
public final class ReadmeTests {
    private static final List<String> lines = new ArrayList<>();
    private static int next = 0;
    private static int wrong = 0;

    public static void main(String[] args) throws IOException {
        readExample(Path.of("README.md"));
        firstHalf();
        if (next < lines.size()) {
            wrong++;
            System.out.println("README.md has lines that no test looks at, from: " + lines.get(next));
        }
        System.out.println(wrong == 0 ? "the example of README.md holds" : wrong + " lines are not as due");
        if (wrong != 0) {
            System.exit(1);
        }
    }

    private static void readExample(Path file) throws IOException {
        boolean inside = false;
        for (String line : Files.readAllLines(file)) {
            if (line.startsWith("```")) {
                inside = line.equals("```java");
            } else if (inside && !line.isBlank() && !line.startsWith("//")) {
                lines.add(line.replaceAll(" +", " "));
            }
        }
    }

    private static void firstHalf() {
        line("LinkAudit audit = new LinkAudit();");
        LinkAudit audit = new LinkAudit();
        line("int base = audit.define(0, 0, LinkAudit.IS_PUBLIC, 12, 0);");
        int base = audit.define(0, 0, LinkAudit.IS_PUBLIC, 12, 0);
        line("int plugin = audit.define(1, 1, LinkAudit.IS_PUBLIC, 0, 0);");
        int plugin = audit.define(1, 1, LinkAudit.IS_PUBLIC, 0, 0);
        line("int shown = audit.method(base, 2, 5, 12, LinkAudit.PUBLIC);");
        int shown = audit.method(base, 2, 5, 12, LinkAudit.PUBLIC);
        line("int own = audit.method(plugin, 2, 5, 12, LinkAudit.PUBLIC);");
        int own = audit.method(plugin, 2, 5, 12, LinkAudit.PUBLIC);
        line("int call = audit.reference(plugin, LinkAudit.CALL * 4 + 2, 0, 5, 12);");
        int call = audit.reference(plugin, LinkAudit.CALL * 4 + 2, 0, 5, 12);

        answer("audit.load(plugin); // plugin: it is loadable", audit.load(plugin), plugin);
        answer("audit.verdict(call); // shown: what the reference is resolved to", audit.verdict(call), shown);
        answer("audit.select(plugin, shown); // own: what the call would run", audit.select(plugin, shown), own);
        answer("audit.overrides(own, shown); // true", audit.overrides(own, shown) ? 1 : 0, 1);
        answer("audit.faults(); // 0: no bad references, gaps or conflicts", audit.faults(), 0);
        secondHalf(audit);
    }

    private static void secondHalf(LinkAudit audit) {
        answer("audit.define(0, 5, LinkAudit.IS_PUBLIC, 12, 0);", audit.define(0, 5, LinkAudit.IS_PUBLIC, 12, 0), 3);
        answer("audit.define(1, 5, LinkAudit.IS_PUBLIC, 12, 0);", audit.define(1, 5, LinkAudit.IS_PUBLIC, 12, 0), 4);
        answer("audit.mask(1, 5, true);", audit.mask(1, 5, true), 0);

        answer("audit.conflicts(); // 1", audit.conflicts(), 1);
        answer("audit.conflict(0, 0); // 5: the name that loaders must agree on but do not", audit.conflict(0, 0), 5);
        answer("audit.conflict(0, 1); // 0: the first of the two loaders", audit.conflict(0, 1), 0);
        answer("audit.conflict(0, 2); // 1: the second one", audit.conflict(0, 2), 1);
        answer("audit.faults(); // 1", audit.faults(), 1);
    }

    private static void line(String text) {
        String shown = next < lines.size() ? lines.get(next) : "nothing";
        next++;
        if (!shown.equals(text)) {
            wrong++;
            System.out.println("README.md shows \"" + shown + "\" where the test has \"" + text + "\"");
        }
    }

    private static void answer(String text, int got, int want) {
        line(text);
        if (got != want) {
            wrong++;
            System.out.println("README.md's line \"" + text + "\" answered " + got + ", due is " + want);
        }
    }
}
