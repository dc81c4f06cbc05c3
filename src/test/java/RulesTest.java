import com.sun.source.tree.*;
import com.sun.source.util.*;
import java.nio.file.*;
import java.util.*;
import java.util.regex.*;
import javax.lang.model.element.*;
import javax.lang.model.type.*;
import javax.tools.*;

/** Looks whether the program keeps to ../shared/LANGUAGE.md and has the face that ../shared/DOC.md tells. */
public final class RulesTest {
    private static final Path SOURCE = Path.of("src/main/java/EngraversHouse.java");
    private static final int PARAMETERS = 7, LINES = 60, FIELDS = 20, CLASSES = 12, CALLS_DEEP = 8;
    private static final Set<String> LIBRARY = Set.of(
            "java.lang.String.length", "java.lang.String.charAt", "java.lang.String.indexOf",
            "java.lang.Integer.bitCount", "java.lang.Integer.numberOfTrailingZeros",
            "java.lang.Math.min", "java.lang.Math.max", "java.lang.Math.abs",
            "java.lang.System.arraycopy", "java.util.Arrays.fill", "java.util.Arrays.copyOf");
    private static final Set<Tree.Kind> NEVER = EnumSet.of(
            Tree.Kind.THROW, Tree.Kind.TRY, Tree.Kind.CATCH, Tree.Kind.SYNCHRONIZED, Tree.Kind.ASSERT,
            Tree.Kind.LAMBDA_EXPRESSION, Tree.Kind.MEMBER_REFERENCE, Tree.Kind.SWITCH_EXPRESSION);

    private static int wrong = 0;

    private static void want(boolean holds, String rule, String what) {
        if (!holds) {
            wrong++;
            System.out.println("rule " + rule + ": " + what);
        }
    }

    public static void main(String[] args) throws Exception {
        JavaCompiler compiler = ToolProvider.getSystemJavaCompiler();
        StandardJavaFileManager files = compiler.getStandardFileManager(null, null, null);
        Path classes = Files.createTempDirectory("rules");
        JavacTask task = (JavacTask) compiler.getTask(null, files, null,
                List.of("-d", classes.toString()), null, files.getJavaFileObjects(SOURCE));
        CompilationUnitTree unit = task.parse().iterator().next();
        task.analyze();
        Trees trees = Trees.instance(task);
        Look look = new Look(unit, trees);
        look.scan(new TreePath(unit), null);
        look.weighCalls();
        lookAtFace(unit, trees);
        lookAtText();
        Files.deleteIfExists(classes);
        System.out.println(wrong == 0 ? "the program keeps to the rules" : wrong + " faults against the rules");
        if (wrong != 0) {
            System.exit(1);
        }
    }

    /** The document's face, each member's head as one line of words. */
    private static List<String> faceOfDocument() throws Exception {
        String doc = Files.readString(Path.of("../shared/DOC.md"));
        int from = doc.indexOf("public final class EngraversHouse {");
        String face = doc.substring(doc.indexOf('\n', from), doc.indexOf("\n}\n", from));
        List<String> heads = new ArrayList<>();
        for (String line : face.split("\n")) {
            if (line.contains("(")) {
                heads.add(line.trim().replace(";", ""));
            }
        }
        return heads;
    }

    private static void lookAtFace(CompilationUnitTree unit, Trees trees) throws Exception {
        want(unit.getTypeDecls().size() == 1, "1", "one class in the file");
        want(unit.getPackageName() == null, "1", "no package");
        ClassTree house = (ClassTree) unit.getTypeDecls().get(0);
        want(house.getModifiers().getFlags().containsAll(Set.of(Modifier.PUBLIC, Modifier.FINAL)), "1", "public and final");
        List<String> heads = new ArrayList<>();
        Set<String> publicNames = new HashSet<>();
        for (Tree member : house.getMembers()) {
            if (member instanceof MethodTree m && m.getModifiers().getFlags().contains(Modifier.PUBLIC)) {
                StringJoiner parameters = new StringJoiner(", ", "(", ")");
                m.getParameters().forEach(p -> parameters.add(p.getType() + " " + p.getName()));
                boolean made = m.getReturnType() == null;
                heads.add("public " + (made ? "EngraversHouse" : m.getReturnType() + " " + m.getName()) + parameters);
                publicNames.add(m.getName().toString());
            } else if (member instanceof MethodTree m) {
                want(m.getModifiers().getFlags().contains(Modifier.PRIVATE), "1", "not private: " + m.getName());
            } else if (member instanceof VariableTree v) {
                boolean told = Set.of("NONE", "BAD", "STATE", "FULL", "NO").contains(v.getName().toString());
                want(v.getModifiers().getFlags().contains(told ? Modifier.PUBLIC : Modifier.PRIVATE), "1", "face: " + v.getName());
            } else if (member instanceof ClassTree c) {
                want(c.getModifiers().getFlags().contains(Modifier.STATIC), "2", "not static: " + c.getSimpleName());
                want(!c.getModifiers().getFlags().contains(Modifier.PUBLIC), "1", "public: " + c.getSimpleName());
            }
        }
        want(heads.equals(faceOfDocument()), "1", "the face is another one than the document's");
        new TreeScanner<Void, Void>() {
            @Override
            public Void visitMethod(MethodTree m, Void none) {
                boolean open = m.getModifiers().getFlags().contains(Modifier.PUBLIC);
                boolean maker = m.getReturnType() == null;
                want(open || maker || !publicNames.contains(m.getName().toString()), "1", "a public one's name: " + m.getName());
                return super.visitMethod(m, none);
            }
        }.scan(house, null);
    }

    private static void lookAtText() throws Exception {
        String text = Files.readString(SOURCE);
        want(text.chars().allMatch(c -> c < 128), "3", "a sign beyond 127");
        Matcher imports = Pattern.compile("^import (.*);$", Pattern.MULTILINE).matcher(text);
        while (imports.find()) {
            want(Set.of("java.util.Arrays", "java.util.ArrayList", "java.util.List").contains(imports.group(1)),
                    "4", "import " + imports.group(1));
        }
    }

    private static final class Look extends TreePathScanner<Void, Void> {
        private final CompilationUnitTree unit;
        private final Trees trees;
        private final Map<Element, Set<Element>> calls = new LinkedHashMap<>();
        private Element inside = null;
        private int classCount = 0;

        Look(CompilationUnitTree unit, Trees trees) {
            this.unit = unit;
            this.trees = trees;
        }

        @Override
        public Void scan(Tree tree, Void none) {
            if (tree != null) {
                want(!NEVER.contains(tree.getKind()), "6", "a " + tree.getKind() + " at line " + line(tree));
            }
            return super.scan(tree, none);
        }

        private long line(Tree tree) {
            return unit.getLineMap().getLineNumber(trees.getSourcePositions().getStartPosition(unit, tree));
        }

        private long lastLine(Tree tree) {
            return unit.getLineMap().getLineNumber(trees.getSourcePositions().getEndPosition(unit, tree));
        }

        @Override
        public Void visitClass(ClassTree c, Void none) {
            classCount++;
            want(inside == null, "2", "a class inside a method: " + c.getSimpleName());
            long fields = c.getMembers().stream().filter(m -> m instanceof VariableTree v
                    && !v.getModifiers().getFlags().contains(Modifier.STATIC)).count();
            want(fields <= FIELDS, "11", c.getSimpleName() + " has " + fields + " fields");
            return super.visitClass(c, none);
        }

        @Override
        public Void visitVariable(VariableTree v, Void none) {
            Set<Modifier> flags = v.getModifiers().getFlags();
            want(!flags.contains(Modifier.STATIC) || flags.contains(Modifier.FINAL), "5", "static, not final: " + v.getName());
            TypeMirror type = trees.getTypeMirror(getCurrentPath());
            if (type instanceof ArrayType row && row.getComponentType() instanceof ArrayType inner) {
                want(inner.getComponentType().getKind().isPrimitive(), "3", "two dimensions: " + v.getName());
            }
            return super.visitVariable(v, none);
        }

        @Override
        public Void visitBlock(BlockTree b, Void none) {
            want(!b.isStatic(), "5", "a static block");
            return super.visitBlock(b, none);
        }

        @Override
        public Void visitMethod(MethodTree m, Void none) {
            want(m.getParameters().size() <= PARAMETERS, "11", "too many parameters: " + m.getName());
            long lines = lastLine(m) - line(m) + 1;
            want(lines <= LINES, "11", m.getName() + " has " + lines + " lines");
            inside = trees.getElement(getCurrentPath());
            calls.putIfAbsent(inside, new LinkedHashSet<>());
            super.visitMethod(m, none);
            inside = null;
            return null;
        }

        private void noteCall(Element called) {
            String owner = called.getEnclosingElement().toString();
            if (owner.startsWith("EngraversHouse")) {
                if (inside != null) {
                    calls.get(inside).add(called);
                }
            } else if (!owner.equals("java.lang.Object")) {
                String name = owner + "." + called.getSimpleName();
                want(LIBRARY.contains(name), "4", "the library's " + name);
            }
        }

        @Override
        public Void visitMethodInvocation(MethodInvocationTree call, Void none) {
            noteCall(trees.getElement(getCurrentPath()));
            return super.visitMethodInvocation(call, none);
        }

        @Override
        public Void visitNewClass(NewClassTree made, Void none) {
            want(made.getClassBody() == null, "2", "an anonymous class at line " + line(made));
            noteCall(trees.getElement(getCurrentPath()));
            return super.visitNewClass(made, none);
        }

        @Override
        public Void visitBinary(BinaryTree b, Void none) {
            TypeMirror type = trees.getTypeMirror(getCurrentPath());
            want(type.getKind().isPrimitive(), "10", "texts joined by + at line " + line(b));
            return super.visitBinary(b, none);
        }

        /** Longest chain of calls, those that call one another in a ring taken for one. */
        void weighCalls() {
            want(classCount <= CLASSES, "11", classCount + " classes");
            for (Element from : calls.keySet()) {
                List<Element> chain = longest(from, new ArrayList<>());
                want(chain.size() <= CALLS_DEEP, "11", "calls go " + chain.size() + " deep: " + chain);
                boolean ring = reaches(from, from, new HashSet<>());
                want(!ring || from.getModifiers().contains(Modifier.PRIVATE), "8", "recursion not private: " + from);
            }
        }

        private boolean reaches(Element from, Element to, Set<Element> seen) {
            for (Element next : calls.getOrDefault(from, Set.of())) {
                if (next.equals(to) || seen.add(next) && reaches(next, to, seen)) {
                    return true;
                }
            }
            return false;
        }

        private List<Element> longest(Element from, List<Element> way) {
            way.add(from);
            List<Element> best = new ArrayList<>(List.of(from));
            for (Element next : calls.getOrDefault(from, Set.of())) {
                if (!way.contains(next)) {
                    List<Element> tail = longest(next, way);
                    if (tail.size() + 1 > best.size()) {
                        best = new ArrayList<>(tail);
                        best.add(0, from);
                    }
                }
            }
            way.remove(way.size() - 1);
            return best;
        }
    }
}
