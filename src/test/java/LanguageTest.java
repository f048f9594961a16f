import com.sun.source.tree.*;
import com.sun.source.util.JavacTask;
import com.sun.source.util.TreeScanner;
import java.lang.reflect.Modifier;
import java.nio.file.Path;
import java.util.ArrayList;
import java.util.HashMap;
import java.util.HashSet;
import java.util.List;
import java.util.Map;
import java.util.Set;
import java.util.TreeSet;
import javax.tools.JavaCompiler;
import javax.tools.StandardJavaFileManager;
import javax.tools.ToolProvider;

// The public face of the document, and the rules of LANGUAGE.md that can be read off the source.
public final class LanguageTest {
    private static final Path SOURCE = Path.of("src/main/java/VotingSuite.java");
    private static final int MOST_FRAMES = 6, MOST_LINES = 60, MOST_PARAMETERS = 7, MOST_FIELDS = 40;

    private static final Set<String> FACE = Set.of(
        "public static final int VotingSuite.BAD", "public static final int VotingSuite.FULL",
        "public static final int VotingSuite.NONE", "public VotingSuite()",
        "public int VotingSuite.ballot(int)", "public int VotingSuite.drop(int)", "public int VotingSuite.order(int)",
        "public int VotingSuite.margin(int,int)", "public int VotingSuite.winners(int)",
        "public int VotingSuite.score(int,int)", "public int VotingSuite.strength(int,int)",
        "public int VotingSuite.swaps(int)", "public int VotingSuite.removals(int)", "public int VotingSuite.leader()",
        "public int VotingSuite.gain(int,int)", "public boolean VotingSuite.agree(int,int)",
        "public int VotingSuite.ballots()");

    private static int wrong = 0;

    public static void main(String[] args) throws Exception {
        face();
        source();
        System.out.println(wrong == 0 ? "the class keeps to its face and language" : wrong + " breaches");
        if (wrong != 0) {
            System.exit(1);
        }
    }

    private static void breach(String rule, Object what) {
        wrong++;
        System.out.println("LANGUAGE.md rule " + rule + ": " + what);
    }

    private static void face() {
        Class<?> type = VotingSuite.class;
        Set<String> seen = new TreeSet<>();
        Set<String> publicNames = new HashSet<>(), privateNames = new HashSet<>();
        for (var m : type.getDeclaredConstructors()) {
            note(seen, m.getModifiers(), m.toString());
        }
        for (var m : type.getDeclaredFields()) {
            note(seen, m.getModifiers(), m.toString());
        }
        for (var m : type.getDeclaredMethods()) {
            note(seen, m.getModifiers(), m.toString());
            (Modifier.isPrivate(m.getModifiers()) ? privateNames : publicNames).add(m.getName());
        }
        if (!seen.equals(FACE)) {
            breach("1", "the members that are not private are " + seen);
        }
        if (type.getModifiers() != (Modifier.PUBLIC | Modifier.FINAL) || type.getDeclaredClasses().length > 0) {
            breach("1", "not one public final class");
        }
        privateNames.retainAll(publicNames);
        if (!privateNames.isEmpty()) {
            breach("1", "private methods with a public name: " + privateNames);
        }
    }

    private static void note(Set<String> seen, int modifiers, String member) {
        if (!Modifier.isPrivate(modifiers)) {
            seen.add(member);
        }
    }

    private static void source() throws Exception {
        JavaCompiler compiler = ToolProvider.getSystemJavaCompiler();
        try (StandardJavaFileManager files = compiler.getStandardFileManager(null, null, null)) {
            JavacTask task = (JavacTask) compiler.getTask(null, files, null, null, null, files.getJavaFileObjects(SOURCE));
            for (CompilationUnitTree unit : task.parse()) {
                if (unit.getPackage() != null || !unit.getImports().isEmpty() || unit.getTypeDecls().size() != 1) {
                    breach("1, 3", "a package line, an import or a second class");
                }
                Reader reader = new Reader();
                reader.scan(unit, null);
                reader.checkDepth();
                checkLines(task, unit);
            }
        }
    }

    private static void checkLines(JavacTask task, CompilationUnitTree unit) {
        var positions = com.sun.source.util.Trees.instance(task).getSourcePositions();
        for (Tree member : ((ClassTree) unit.getTypeDecls().get(0)).getMembers()) {
            if (member instanceof MethodTree) {
                long first = unit.getLineMap().getLineNumber(positions.getStartPosition(unit, member));
                long last = unit.getLineMap().getLineNumber(positions.getEndPosition(unit, member));
                if (last - first >= MOST_LINES) {
                    breach("10", ((MethodTree) member).getName() + " has " + (last - first + 1) + " lines");
                }
            }
        }
    }

    private static final class Reader extends TreeScanner<Void, Void> {
        private static final Set<Tree.Kind> FORBIDDEN = Set.of(
            Tree.Kind.THROW, Tree.Kind.TRY, Tree.Kind.CATCH, Tree.Kind.SYNCHRONIZED, Tree.Kind.ASSERT,
            Tree.Kind.INSTANCE_OF, Tree.Kind.LAMBDA_EXPRESSION, Tree.Kind.MEMBER_REFERENCE, Tree.Kind.NEW_CLASS,
            Tree.Kind.NULL_LITERAL, Tree.Kind.STRING_LITERAL, Tree.Kind.FLOAT_LITERAL, Tree.Kind.DOUBLE_LITERAL,
            Tree.Kind.ENHANCED_FOR_LOOP, Tree.Kind.INTERFACE, Tree.Kind.ENUM, Tree.Kind.RECORD);
        private static final Set<String> TYPES = Set.of("int", "long", "short", "byte", "char", "boolean", "int[]",
            "long[]", "short[]", "byte[]", "char[]", "boolean[]");

        private final Map<String, Set<String>> calls = new HashMap<>();
        private String method = null;
        private boolean inArguments = false;
        private int fields = 0;

        @Override
        public Void scan(Tree tree, Void unused) {
            if (tree != null && FORBIDDEN.contains(tree.getKind())) {
                breach("2 to 6", tree);
            }
            return super.scan(tree, unused);
        }

        @Override
        public Void visitMethod(MethodTree tree, Void unused) {
            method = tree.getName().toString();
            if (calls.put(method, new HashSet<>()) != null) {
                breach("1", method + " stands twice");
            }
            if (tree.getParameters().size() > MOST_PARAMETERS) {
                breach("10", method + " takes too many parameters");
            }
            super.visitMethod(tree, unused);
            method = null;
            return null;
        }

        @Override
        public Void visitVariable(VariableTree tree, Void unused) {
            String type = String.valueOf(tree.getType());
            Set<javax.lang.model.element.Modifier> flags = tree.getModifiers().getFlags();
            if (!TYPES.contains(type)) {
                breach("2", tree);
            }
            if (method == null && flags.contains(javax.lang.model.element.Modifier.STATIC)) {
                boolean constant = flags.contains(javax.lang.model.element.Modifier.FINAL)
                    && Set.of("int", "long").contains(type) && tree.getInitializer() != null;
                if (!constant) {
                    breach("5", tree);
                }
            } else if (method == null && ++fields > MOST_FIELDS) {
                breach("10", "too many fields");
            }
            return super.visitVariable(tree, unused);
        }

        @Override
        public Void visitNewArray(NewArrayTree tree, Void unused) {
            boolean plain = tree.getDimensions().size() == 1 && tree.getInitializers() == null
                && Set.of(Tree.Kind.IDENTIFIER, Tree.Kind.INT_LITERAL).contains(tree.getDimensions().get(0).getKind());
            if (method != null || !plain) {
                breach("4", tree);
            }
            return super.visitNewArray(tree, unused);
        }

        @Override
        public Void visitMemberSelect(MemberSelectTree tree, Void unused) {
            breach("3", tree);
            return super.visitMemberSelect(tree, unused);
        }

        @Override
        public Void visitMethodInvocation(MethodInvocationTree tree, Void unused) {
            String name = tree.getMethodSelect().toString();
            if (inArguments) {
                breach("10", tree + " stands in the arguments of another call");
            }
            calls.get(method).add(name);
            inArguments = true;
            scan(tree.getArguments(), unused);
            inArguments = false;
            return null;
        }

        void checkDepth() {
            for (String name : calls.keySet()) {
                depth(name, new ArrayList<>());
            }
        }

        private void depth(String name, List<String> above) {
            if (above.contains(name)) {
                breach("8", name + " calls itself: " + above);
                return;
            }
            List<String> frames = new ArrayList<>(above);
            frames.add(name);
            if (!calls.containsKey(name)) {
                breach("3", name + " is no method of the class");
            } else if (frames.size() > MOST_FRAMES) {
                breach("10", "calls too deep: " + frames);
            } else {
                for (String next : calls.get(name)) {
                    depth(next, frames);
                }
            }
        }
    }
}
