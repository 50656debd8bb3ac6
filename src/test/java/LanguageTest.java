import com.sun.source.tree.MethodInvocationTree;
import com.sun.source.tree.MethodTree;
import com.sun.source.tree.Tree;
import com.sun.source.util.JavacTask;
import com.sun.source.util.TreeScanner;
import java.io.IOException;
import java.nio.file.Files;
import java.nio.file.Path;
import java.util.Set;
import java.util.TreeMap;
import java.util.TreeSet;
import java.util.regex.Matcher;
import java.util.regex.Pattern;
import javax.tools.JavaCompiler;
import javax.tools.StandardJavaFileManager;
import javax.tools.ToolProvider;

/** The rules of LANGUAGE.md that can be seen in the source alone; it runs in the project's folder. */
public final class LanguageTest {
    private static final Check CHECK = new Check();
    private static final Path SOURCE = Path.of("src/main/java/LockElision.java");
    private static final int DEEPEST = 6;
    private static final int LONGEST = 60;
    private static final int MOST_FIELDS = 40;

    public static void main(String[] args) throws IOException {
        String code = Files.readString(SOURCE).replaceAll("(?s)/\\*.*?\\*/", "").replaceAll("//[^\n]*", "");
        words(code);
        shortMethods(code);
        Calls calls = new Calls();
        for (Tree unit : parsed()) {
            calls.scan(unit, null);
        }
        CHECK.due("methods were found", calls.calledBy.size() > 16, true);
        for (String method : calls.calledBy.keySet()) {
            CHECK.due("rules 8 and 10: calls from " + method, calls.depth(method, DEEPEST + 1) <= DEEPEST, true);
        }
        CHECK.end();
    }

    private static void words(String code) {
        never(code, "rules 1, 2 and 3", "\\b(import|package|protected|interface|enum|record|float|double)\\b");
        never(code, "rules 2 and 3", "\\b(?!LockElision\\b)[A-Z]\\w*[a-z]\\w*\\b|\"");
        never(code, "rule 3", "\\b(getClass|hashCode|equals|toString|notify|notifyAll|wait|clone)\\b");
        never(code, "rule 4", "\\bnull\\b|\\]\\s*\\[");
        never(code, "rule 4: a method answers an array", "\\]\\s+\\w+\\s*\\(");
        never(code, "rule 5", "\\bstatic\\s*\\{|\\bstatic\\s+(?!final (int|long) [A-Z_]+ = )[^;({]*=");
        never(code, "rule 6", "\\b(throw|throws|try|catch|finally|synchronized|assert|instanceof)\\b|->|::");
        CHECK.due("rule 7: every divisor is a constant or the clamped number of sets", count(code, "[/%]"),
                count(code, " / LINE_WORDS;| % sets;"));
        CHECK.due("rule 8: every loop counts up to a constant", count(code, "\\b(for|while|do)\\b"),
                count(code, "\\bfor \\(int (\\w+) = 0; \\1 < [A-Z]+; \\1\\+\\+\\) \\{"));
        CHECK.due("rule 1: classes", count(code, "\\bclass\\b"), 1);
        CHECK.due("rule 4: every new is a field's initialiser", count(code, "\\bnew\\b"),
                count(code, "\n    private final (int|boolean)\\[\\] \\w+ = new (int|boolean)\\[[A-Z_]+\\];"));
        int fields = count(code, "\n    private (final )?(int|boolean)(\\[\\])? \\w+( =|;)");
        CHECK.due("rule 10: " + fields + " fields", fields <= MOST_FIELDS, true);
    }

    private static void never(String code, String rule, String pattern) {
        Matcher found = Pattern.compile(pattern).matcher(code);
        boolean any = found.find();
        CHECK.due(rule + (any ? ": '" + found.group() + "'" : ""), any, false);
    }

    private static int count(String code, String pattern) {
        return (int) Pattern.compile(pattern).matcher(code).results().count();
    }

    private static void shortMethods(String code) {
        int length = 0;
        for (String line : code.split("\n")) {
            length = line.matches("    \\S.*\\{") ? 0 : length + 1;
            if (line.equals("    }")) {
                CHECK.due("rule 10: a method of " + length + " lines", length <= LONGEST, true);
            }
        }
    }

    private static Iterable<? extends Tree> parsed() throws IOException {
        JavaCompiler compiler = ToolProvider.getSystemJavaCompiler();
        try (StandardJavaFileManager files = compiler.getStandardFileManager(null, null, null)) {
            return ((JavacTask) compiler.getTask(null, files, null, null, null, files.getJavaFileObjects(SOURCE))).parse();
        }
    }

    /** Which method calls which, and whether a call stands inside the arguments of another. */
    private static final class Calls extends TreeScanner<Void, Void> {
        final TreeMap<String, Set<String>> calledBy = new TreeMap<>();
        private String method = "";
        private int argumentsAround = 0;

        @Override
        public Void visitMethod(MethodTree node, Void nothing) {
            method = node.getName().toString();
            CHECK.due("rule 1: " + method + " is the only one of its name", calledBy.containsKey(method), false);
            CHECK.due("rule 10: parameters of " + method, node.getParameters().size() <= 7, true);
            calledBy.put(method, new TreeSet<>());
            return super.visitMethod(node, nothing);
        }

        @Override
        public Void visitMethodInvocation(MethodInvocationTree node, Void nothing) {
            calledBy.get(method).add(node.getMethodSelect().toString());
            CHECK.due("rule 10: " + node + " inside the arguments of another call", argumentsAround, 0);
            argumentsAround++;
            scan(node.getArguments(), nothing);
            argumentsAround--;
            return null;
        }

        /** How deep calls go from here, this method counted; recursion ends at the limit. */
        int depth(String from, int limit) {
            int deepest = 0;
            if (limit > 1 && calledBy.containsKey(from)) {
                for (String called : calledBy.get(from)) {
                    deepest = Math.max(deepest, depth(called, limit - 1));
                }
            }
            return 1 + deepest;
        }
    }
}
