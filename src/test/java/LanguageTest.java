import com.sun.management.ThreadMXBean;
import com.sun.source.tree.BinaryTree;
import com.sun.source.tree.ClassTree;
import com.sun.source.tree.CompilationUnitTree;
import com.sun.source.tree.LineMap;
import com.sun.source.tree.MethodInvocationTree;
import com.sun.source.tree.MethodTree;
import com.sun.source.tree.NewClassTree;
import com.sun.source.tree.Tree;
import com.sun.source.tree.VariableTree;
import com.sun.source.util.JavacTask;
import com.sun.source.util.TreePathScanner;
import com.sun.source.util.Trees;
import java.io.IOException;
import java.lang.management.ManagementFactory;
import java.nio.file.Path;
import java.util.HashMap;
import java.util.LinkedHashSet;
import java.util.List;
import java.util.Map;
import java.util.Set;
import javax.lang.model.element.Element;
import javax.lang.model.element.Modifier;
import javax.tools.JavaCompiler;
import javax.tools.StandardJavaFileManager;
import javax.tools.ToolProvider;

/** The rules of ../shared/LANGUAGE.md that can be measured: 5, 8, 10, 11 and 12. It runs in the project's folder. */
public final class LanguageTest {
    private static final Path SOURCE = Path.of("src/main/java/TokenMouth.java");

    public static void main(String[] args) throws IOException {
        Source source = Source.read();
        sizes(source);
        callsEightDeep(source);
        openCallsUnder300();
        callsMakeNoObjects();
        Probe.end();
    }

    private static void atMost(String what, long got, long limit) {
        Probe.check(what + " " + got + ", at most " + limit, got <= limit ? 1 : 0, 1);
    }

    // 11: at most seven parameters, some sixty lines, some twelve classes, some twenty fields beside constants.
    private static void sizes(Source source) {
        source.parameters.forEach((method, n) -> atMost("parameters of " + method, n, 7));
        source.lines.forEach((method, n) -> atMost("lines of " + method, n, 60));
        source.fields.forEach((type, n) -> atMost("fields of " + type, n, 20));
        atMost("classes", source.classes, 12);
        Probe.check("methods were found", source.calls.size() > 50 ? 1 : 0, 1);
    }

    // 11: calls that are no recursion go at most eight deep. Here a way ends where a method would come again, so the
    // methods that call one another are counted, too, each of them once.
    private static void callsEightDeep(Source source) {
        for (Element method : source.calls.keySet()) {
            Set<Element> way = source.longestWay(method, new LinkedHashSet<>());
            atMost("calls deep " + way, way.size(), 8);
        }
    }

    // 8: the calls that stand open at once stay under 300 for every run of calls. The deepest ones stand in the trace
    // of the fault that the 31st expansion is, which begins while 30 others are not done.
    private static void openCallsUnder300() {
        for (String command : List.of("\\csname", "\\expandafter", "\\if")) {
            String text = "\\let~" + command + "\\edef\\a{" + "~".repeat(120);
            atMost("open calls of " + text, openCalls(text), 299);
        }
        int open = openCalls("\\let~\\csname\\edef\\a{" + "~".repeat(31));
        Probe.check("30 expansions stand open in " + open + " calls", open > 60 ? 1 : 0, 1);
    }

    private static int openCalls(String text) {
        Probe probe = Probe.of(text);
        try {
            probe.mouth.run(500);
        } catch (IllegalStateException e) {
            int open = 0;
            for (StackTraceElement call : e.getStackTrace()) {
                open += call.getClassName().startsWith("TokenMouth") ? 1 : 0;
            }
            return open;
        }
        return 0;
    }

    // 12: what a run makes is counted: keep it small. The calls that throw nothing make no object at all.
    private static void callsMakeNoObjects() {
        ThreadMXBean threads = (ThreadMXBean) ManagementFactory.getThreadMXBean();
        allKindsOfCalls(new TokenMouth());
        TokenMouth mouth = new TokenMouth();
        long before = threads.getCurrentThreadAllocatedBytes();
        int answers = allKindsOfCalls(mouth);
        long made = threads.getCurrentThreadAllocatedBytes() - before;
        Probe.check("the runs came to their ends", answers, 30);
        // Far less than an object for each of the calls; the machine's own books may take a little.
        atMost("bytes made by 510 calls", made, 1000);
    }

    /** 30 times 17 calls; it makes nothing by itself. Answers how many runs have ended. */
    private static int allKindsOfCalls(TokenMouth mouth) {
        int ended = 0;
        for (int k = 0; k < 30; k++) {
            mouth.wipe();
            mouth.type(0x5C6465665C612331L); // \def\a#1
            mouth.type(0x2E7B233123317D5CL); // .{#1#1}\
            mouth.type(0x656465665C627B5CL); // edef\b{\
            mouth.type(0x6120787B797D2E5CL); // a x{y}.\
            mouth.type(0x63736E616D652071L); // csname q
            mouth.type(0x5C656E6463736E61L); // \endcsna
            mouth.type(0x6D657D7B5C627D0AL); // me}{\b}, the end of a line
            mouth.run(1);
            mouth.again();
            ended += mouth.run(500);
            mouth.fault(0);
            mouth.out(0);
            mouth.count(0);
            mouth.category('a');
            mouth.meaning('b', false);
            mouth.detail('b', false, 3);
        }
        return ended;
    }

    /** What stands in the source: the sizes of its parts, and which method calls which. */
    private static final class Source extends TreePathScanner<Void, Element> {
        final Map<Element, Set<Element>> calls = new HashMap<>();
        final Map<Element, Integer> parameters = new HashMap<>();
        final Map<Element, Long> lines = new HashMap<>();
        final Map<Element, Integer> fields = new HashMap<>();
        int classes;
        private final Trees trees;
        private final CompilationUnitTree unit;

        private Source(Trees trees, CompilationUnitTree unit) {
            this.trees = trees;
            this.unit = unit;
        }

        static Source read() throws IOException {
            JavaCompiler compiler = ToolProvider.getSystemJavaCompiler();
            try (StandardJavaFileManager files = compiler.getStandardFileManager(null, null, null)) {
                // Else javac joins the texts that are written out before the tree is there.
                List<String> options = List.of("-XDallowStringFolding=false");
                JavacTask task = (JavacTask) compiler.getTask(null, files, null, options, null,
                        files.getJavaFileObjects(SOURCE));
                CompilationUnitTree unit = task.parse().iterator().next();
                task.analyze();
                Source source = new Source(Trees.instance(task), unit);
                source.scan(unit, null);
                return source;
            }
        }

        /** The longest way from a method through methods that are not on it yet. */
        Set<Element> longestWay(Element method, Set<Element> way) {
            way.add(method);
            Set<Element> longest = new LinkedHashSet<>(way);
            for (Element next : calls.getOrDefault(method, Set.of())) {
                if (!way.contains(next)) {
                    Set<Element> other = longestWay(next, way);
                    longest = other.size() > longest.size() ? other : longest;
                }
            }
            way.remove(method);
            return longest;
        }

        private Element element() {
            return trees.getElement(getCurrentPath());
        }

        @Override
        public Void visitClass(ClassTree tree, Element within) {
            classes++;
            fields.put(element(), 0);
            return super.visitClass(tree, null);
        }

        // 5: static fields are final.
        @Override
        public Void visitVariable(VariableTree tree, Element within) {
            Set<Modifier> modifiers = tree.getModifiers().getFlags();
            if (modifiers.contains(Modifier.STATIC)) {
                Probe.check("final " + tree.getName(), modifiers.contains(Modifier.FINAL) ? 1 : 0, 1);
            } else if (within == null) {
                fields.merge(element().getEnclosingElement(), 1, Integer::sum);
            }
            return super.visitVariable(tree, within);
        }

        @Override
        public Void visitMethod(MethodTree tree, Element within) {
            Element method = element();
            calls.put(method, new LinkedHashSet<>());
            parameters.put(method, tree.getParameters().size());
            LineMap map = unit.getLineMap();
            long first = map.getLineNumber(trees.getSourcePositions().getStartPosition(unit, tree));
            long last = map.getLineNumber(trees.getSourcePositions().getEndPosition(unit, tree));
            lines.put(method, last - first + 1);
            return super.visitMethod(tree, method);
        }

        private void call(Element within, Element called) {
            if (within != null && called.getEnclosingElement().toString().startsWith("TokenMouth")) {
                calls.get(within).add(called);
            }
        }

        @Override
        public Void visitMethodInvocation(MethodInvocationTree tree, Element within) {
            call(within, element());
            return super.visitMethodInvocation(tree, within);
        }

        @Override
        public Void visitNewClass(NewClassTree tree, Element within) {
            call(within, element());
            return super.visitNewClass(tree, within);
        }

        // 10: texts are not joined by +.
        @Override
        public Void visitBinary(BinaryTree tree, Element within) {
            if (tree.getKind() == Tree.Kind.PLUS) {
                String type = trees.getTypeMirror(getCurrentPath()).toString();
                Probe.check("no text is joined: " + tree, type.endsWith("String") ? 1 : 0, 0);
            }
            return super.visitBinary(tree, within);
        }
    }
}
