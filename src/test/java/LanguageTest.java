import com.sun.source.tree.AssertTree;
import com.sun.source.tree.BinaryTree;
import com.sun.source.tree.ClassTree;
import com.sun.source.tree.CompilationUnitTree;
import com.sun.source.tree.DoWhileLoopTree;
import com.sun.source.tree.EnhancedForLoopTree;
import com.sun.source.tree.ForLoopTree;
import com.sun.source.tree.ImportTree;
import com.sun.source.tree.InstanceOfTree;
import com.sun.source.tree.LambdaExpressionTree;
import com.sun.source.tree.LineMap;
import com.sun.source.tree.LiteralTree;
import com.sun.source.tree.MemberReferenceTree;
import com.sun.source.tree.MethodInvocationTree;
import com.sun.source.tree.MethodTree;
import com.sun.source.tree.NewArrayTree;
import com.sun.source.tree.NewClassTree;
import com.sun.source.tree.SynchronizedTree;
import com.sun.source.tree.ThrowTree;
import com.sun.source.tree.Tree;
import com.sun.source.tree.TryTree;
import com.sun.source.tree.TypeCastTree;
import com.sun.source.tree.VariableTree;
import com.sun.source.tree.WhileLoopTree;
import com.sun.source.util.JavacTask;
import com.sun.source.util.SourcePositions;
import com.sun.source.util.TreePath;
import com.sun.source.util.TreePathScanner;
import com.sun.source.util.Trees;
import java.io.File;
import java.util.ArrayList;
import java.util.HashMap;
import java.util.HashSet;
import java.util.List;
import java.util.Map;
import java.util.Set;
import java.util.TreeMap;
import javax.lang.model.element.Element;
import javax.lang.model.element.ElementKind;
import javax.lang.model.element.ExecutableElement;
import javax.lang.model.element.Modifier;
import javax.lang.model.element.TypeElement;
import javax.lang.model.type.TypeKind;
import javax.lang.model.type.TypeMirror;
import javax.tools.JavaCompiler;
import javax.tools.StandardJavaFileManager;
import javax.tools.ToolProvider;

/** Reads the program's source and tells what LANGUAGE.md rules out, as far as a reader without judgement can see it. */
public final class LanguageTest {
    private static final Set<String> FACE = Set.of(
            "status", "top", "bottom", "tray", "write", "read", "pour", "feed", "world", "script", "fault", "many",
            "constant", "put", "bracket", "lawful", "failing", "keep", "take", "span", "derived", "lower", "centre",
            "centralizer", "is", "radical", "parts", "share", "rank", "power", "derivations", "form", "classes",
            "commuting", "maps", "sameAs", "tries", "parted", "change", "squeeze", "barred", "cocycle", "grow", "sum",
            "rest", "takeOut", "tables", "run", "ran", "mark", "back");
    private static final Set<String> LIBRARY = Set.of(
            "java.lang.String.length", "java.lang.String.charAt", "java.lang.Integer.compare",
            "java.lang.Integer.bitCount", "java.lang.Math.max", "java.lang.Math.min",
            "java.lang.System.arraycopy", "java.util.Arrays.fill");
    private static final int PARAMETERS = 7;
    private static final int LINES = 60;
    // Eight with the library's own call at the bottom.
    private static final int DEPTH = 7;
    private static final int CLASSES = 12;
    private static final int FIELDS = 20;

    private static int wrong;

    private static void wrong(String what) {
        wrong++;
        System.out.println("LANGUAGE.md: " + what);
    }

    public static void main(String[] args) throws Exception {
        String root = System.getProperty("project.root", ".");
        File file = new File(root, "src/main/java/BracketRoom.java");
        JavaCompiler compiler = ToolProvider.getSystemJavaCompiler();
        try (StandardJavaFileManager files = compiler.getStandardFileManager(null, null, null)) {
            JavacTask task = (JavacTask) compiler.getTask(null, files, null, List.of("-proc:none", "-Xlint:none"), null,
                    files.getJavaFileObjects(file));
            CompilationUnitTree unit = task.parse().iterator().next();
            task.analyze();
            if (unit.getPackageName() != null) {
                wrong("a package line");
            }
            for (ImportTree i : unit.getImports()) {
                if (!i.getQualifiedIdentifier().toString().startsWith("java.util.")) {
                    wrong("rule 4: import " + i.getQualifiedIdentifier());
                }
            }
            Reader reader = new Reader(unit, Trees.instance(task));
            reader.scan(unit, null);
            reader.judge();
        }
        System.out.println("LanguageTest: " + wrong + " things ruled out");
        if (wrong > 0) {
            System.exit(1);
        }
    }

    private static final class Reader extends TreePathScanner<Void, Void> {
        private final CompilationUnitTree unit;
        private final Trees trees;
        private final SourcePositions positions;
        private final LineMap lines;
        private final Map<Element, Set<Element>> calls = new HashMap<>();
        private final Map<String, Integer> fields = new TreeMap<>();
        private final Set<String> publicMethods = new HashSet<>();
        private int classes;
        private Element method;

        Reader(CompilationUnitTree unit, Trees trees) {
            this.unit = unit;
            this.trees = trees;
            this.positions = trees.getSourcePositions();
            this.lines = unit.getLineMap();
        }

        private String at(Tree t) {
            return " at line " + lines.getLineNumber(positions.getStartPosition(unit, t));
        }

        private TypeMirror type(Tree t) {
            return trees.getTypeMirror(new TreePath(getCurrentPath(), t));
        }

        @Override
        public Void visitClass(ClassTree c, Void v) {
            classes++;
            Element e = trees.getElement(getCurrentPath());
            if (e.getKind() != ElementKind.CLASS && e.getKind() != ElementKind.RECORD && e.getKind() != ElementKind.ENUM
                    && e.getKind() != ElementKind.INTERFACE) {
                wrong("rule 2: " + e.getKind() + at(c));
            }
            boolean outer = e.getEnclosingElement().getKind() == ElementKind.PACKAGE;
            if (!outer && !e.getModifiers().contains(Modifier.STATIC)) {
                wrong("rule 2: an inner class" + at(c));
            }
            if (!outer && e.getModifiers().contains(Modifier.PUBLIC)) {
                wrong("rule 1: a public class inside" + at(c));
            }
            for (Element m : e.getEnclosedElements()) {
                judgeMember(e, m, outer);
            }
            return super.visitClass(c, v);
        }

        private void judgeMember(Element owner, Element m, boolean outer) {
            boolean isStatic = m.getModifiers().contains(Modifier.STATIC);
            if (m.getKind() == ElementKind.FIELD) {
                if (isStatic && !m.getModifiers().contains(Modifier.FINAL)) {
                    wrong("rule 5: static " + m);
                }
                if (!isStatic) {
                    fields.merge(owner.getSimpleName().toString(), 1, Integer::sum);
                }
                boolean shown = outer && !m.getModifiers().contains(Modifier.PRIVATE) && !m.toString().equals("NONE");
                if (shown) {
                    wrong("rule 1: the field " + m);
                }
            }
            if (m.getKind() == ElementKind.METHOD) {
                String name = m.getSimpleName().toString();
                boolean open = m.getModifiers().contains(Modifier.PUBLIC);
                if (outer && open) {
                    publicMethods.add(name);
                    if (!FACE.contains(name)) {
                        wrong("rule 1: public " + name);
                    }
                } else if (FACE.contains(name)) {
                    wrong("rule 1: " + owner.getSimpleName() + "." + name + " bears the name of a public one");
                } else if (outer && !m.getModifiers().contains(Modifier.PRIVATE)) {
                    wrong("rule 1: " + name + " can be seen");
                }
            }
            if (m.getKind() == ElementKind.STATIC_INIT || m.getKind() == ElementKind.INSTANCE_INIT) {
                wrong("rule 5: an initialiser block of " + owner.getSimpleName());
            }
        }

        @Override
        public Void visitMethod(MethodTree m, Void v) {
            long from = lines.getLineNumber(positions.getStartPosition(unit, m));
            long to = lines.getLineNumber(positions.getEndPosition(unit, m));
            if (to > 0 && to - from + 1 > LINES) {
                wrong("rule 11: " + m.getName() + " has " + (to - from + 1) + " lines");
            }
            if (m.getParameters().size() > PARAMETERS) {
                wrong("rule 11: " + m.getName() + " takes " + m.getParameters().size());
            }
            if (!m.getThrows().isEmpty()) {
                wrong("rule 6: " + m.getName() + " throws");
            }
            Element before = method;
            method = trees.getElement(getCurrentPath());
            calls.computeIfAbsent(method, k -> new HashSet<>());
            super.visitMethod(m, v);
            method = before;
            return null;
        }

        @Override
        public Void visitMethodInvocation(MethodInvocationTree i, Void v) {
            Element e = trees.getElement(new TreePath(getCurrentPath(), i.getMethodSelect()));
            if (e instanceof ExecutableElement) {
                TypeElement owner = (TypeElement) e.getEnclosingElement();
                String full = owner.getQualifiedName() + "." + e.getSimpleName();
                if (full.startsWith("BracketRoom")) {
                    if (method != null) {
                        calls.get(method).add(e);
                    }
                } else if (!LIBRARY.contains(full) && !e.getSimpleName().contentEquals("<init>")) {
                    wrong("rule 4: " + full + at(i));
                }
            }
            return super.visitMethodInvocation(i, v);
        }

        @Override
        public Void visitNewClass(NewClassTree n, Void v) {
            if (n.getClassBody() != null) {
                wrong("rule 2: a class without a name" + at(n));
            }
            judgeMaking(n);
            return super.visitNewClass(n, v);
        }

        @Override
        public Void visitNewArray(NewArrayTree n, Void v) {
            judgeMaking(n);
            return super.visitNewArray(n, v);
        }

        /** The project's own rule: rows are made with the object alone, so that calls take no room. */
        private void judgeMaking(Tree n) {
            if (method != null && method.getKind() != ElementKind.CONSTRUCTOR) {
                wrong("rule 12: something is made in a call" + at(n));
            }
        }

        @Override
        public Void visitVariable(VariableTree t, Void v) {
            TypeMirror type = trees.getTypeMirror(getCurrentPath());
            String name = String.valueOf(type);
            boolean plain = type.getKind().isPrimitive() || name.startsWith("BracketRoom") || name.equals("java.lang.String")
                    || name.matches("(int|long|short|byte|char|boolean)\\[\\](\\[\\])?");
            if (!plain) {
                wrong("rule 3: " + name + " " + t.getName() + at(t));
            }
            return super.visitVariable(t, v);
        }

        @Override
        public Void visitBinary(BinaryTree b, Void v) {
            TypeMirror left = type(b.getLeftOperand());
            TypeMirror right = type(b.getRightOperand());
            boolean texts = isText(left) || isText(right);
            if (texts) {
                wrong("rules 6, 10: " + b.getKind() + " of texts" + at(b));
            }
            if ((b.getKind() == Tree.Kind.DIVIDE || b.getKind() == Tree.Kind.REMAINDER) && type(b).getKind() == TypeKind.DOUBLE) {
                wrong("rule 3: a double" + at(b));
            }
            return super.visitBinary(b, v);
        }

        private static boolean isText(TypeMirror t) {
            return t != null && t.toString().equals("java.lang.String");
        }

        @Override
        public Void visitTypeCast(TypeCastTree c, Void v) {
            if (!type(c.getType()).getKind().isPrimitive()) {
                wrong("rule 6: a cast to look at" + at(c));
            }
            return super.visitTypeCast(c, v);
        }

        @Override
        public Void visitLiteral(LiteralTree l, Void v) {
            String text = String.valueOf(l.getValue());
            for (int i = 0; i < text.length(); i++) {
                if (text.charAt(i) < 1 || text.charAt(i) > 127) {
                    wrong("rule 4: a sign" + at(l));
                }
            }
            return super.visitLiteral(l, v);
        }

        @Override
        public Void visitForLoop(ForLoopTree f, Void v) {
            if (f.getCondition() == null) {
                wrong("rule 9: a loop without a bound" + at(f));
            }
            return super.visitForLoop(f, v);
        }

        @Override
        public Void visitWhileLoop(WhileLoopTree w, Void v) {
            if (!w.getCondition().toString().matches("\\((start|end) < length && .*")) {
                wrong("rule 9: a while to look at" + at(w));
            }
            return super.visitWhileLoop(w, v);
        }

        @Override
        public Void visitDoWhileLoop(DoWhileLoopTree w, Void v) {
            wrong("rule 9: a do to look at" + at(w));
            return super.visitDoWhileLoop(w, v);
        }

        @Override
        public Void visitEnhancedForLoop(EnhancedForLoopTree f, Void v) {
            wrong("rule 12: a for over something to look at" + at(f));
            return super.visitEnhancedForLoop(f, v);
        }

        @Override
        public Void visitThrow(ThrowTree t, Void v) {
            wrong("rule 6: throw" + at(t));
            return super.visitThrow(t, v);
        }

        @Override
        public Void visitTry(TryTree t, Void v) {
            wrong("rule 6: try" + at(t));
            return super.visitTry(t, v);
        }

        @Override
        public Void visitSynchronized(SynchronizedTree t, Void v) {
            wrong("rule 6: synchronized" + at(t));
            return super.visitSynchronized(t, v);
        }

        @Override
        public Void visitAssert(AssertTree t, Void v) {
            wrong("rule 6: assert" + at(t));
            return super.visitAssert(t, v);
        }

        @Override
        public Void visitInstanceOf(InstanceOfTree t, Void v) {
            wrong("rule 6: instanceof to look at" + at(t));
            return super.visitInstanceOf(t, v);
        }

        @Override
        public Void visitLambdaExpression(LambdaExpressionTree t, Void v) {
            wrong("rule 2: a lambda" + at(t));
            return super.visitLambdaExpression(t, v);
        }

        @Override
        public Void visitMemberReference(MemberReferenceTree t, Void v) {
            wrong("rule 2: a method reference" + at(t));
            return super.visitMemberReference(t, v);
        }

        void judge() {
            if (classes > CLASSES) {
                wrong("rule 11: " + classes + " classes");
            }
            fields.forEach((name, many) -> {
                if (many > FIELDS) {
                    wrong("rule 11: " + name + " has " + many + " fields");
                }
            });
            for (String name : FACE) {
                if (!publicMethods.contains(name)) {
                    wrong("rule 1: no " + name);
                }
            }
            int deepest = 0;
            for (Element e : calls.keySet()) {
                deepest = Math.max(deepest, depth(e, new ArrayList<>()));
            }
            System.out.println(classes + " classes, fields " + fields + ", calls " + deepest + " deep");
        }

        private int depth(Element e, List<Element> above) {
            if (above.contains(e)) {
                wrong("rule 8: recursion to look at: " + e);
                return 0;
            }
            List<Element> here = new ArrayList<>(above);
            here.add(e);
            if (here.size() > DEPTH) {
                wrong("rule 11: too deep: " + here);
                return here.size();
            }
            int deepest = 1;
            for (Element called : calls.getOrDefault(e, Set.of())) {
                deepest = Math.max(deepest, 1 + depth(called, here));
            }
            return deepest;
        }
    }
}
